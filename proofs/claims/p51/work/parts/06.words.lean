/-! the code words, by place -/
set_option maxRecDepth 100000
theorem am_wc_0 : Jvm.Cond.code (am_y 0) (am_by 0) (am_ml 0) (am_rty 0) ∈ am_gw := List.mem_filter.mpr ⟨List.mem_of_getElem? (i := 52) rfl, rfl⟩
theorem am_wc_1 : Jvm.Cond.code (am_y 1) (am_by 1) (am_ml 1) (am_rty 1) ∈ am_gw := List.mem_filter.mpr ⟨List.mem_of_getElem? (i := 578) rfl, rfl⟩
theorem am_wc_2 : Jvm.Cond.code (am_y 2) (am_by 2) (am_ml 2) (am_rty 2) ∈ am_gw := List.mem_filter.mpr ⟨List.mem_of_getElem? (i := 578) rfl, rfl⟩
theorem am_wc_3 : Jvm.Cond.code (am_y 3) (am_by 3) (am_ml 3) (am_rty 3) ∈ am_gw := List.mem_filter.mpr ⟨List.mem_of_getElem? (i := 389) rfl, rfl⟩
theorem am_wc_4 : Jvm.Cond.code (am_y 4) (am_by 4) (am_ml 4) (am_rty 4) ∈ am_gw := List.mem_filter.mpr ⟨List.mem_of_getElem? (i := 416) rfl, rfl⟩
theorem am_wc_5 : Jvm.Cond.code (am_y 5) (am_by 5) (am_ml 5) (am_rty 5) ∈ am_gw := List.mem_filter.mpr ⟨List.mem_of_getElem? (i := 578) rfl, rfl⟩
theorem am_wc_6 : Jvm.Cond.code (am_y 6) (am_by 6) (am_ml 6) (am_rty 6) ∈ am_gw := List.mem_filter.mpr ⟨List.mem_of_getElem? (i := 578) rfl, rfl⟩
theorem am_wc_7 : Jvm.Cond.code (am_y 7) (am_by 7) (am_ml 7) (am_rty 7) ∈ am_gw := List.mem_filter.mpr ⟨List.mem_of_getElem? (i := 828) rfl, rfl⟩
theorem am_wc_8 : Jvm.Cond.code (am_y 8) (am_by 8) (am_ml 8) (am_rty 8) ∈ am_gw := List.mem_filter.mpr ⟨List.mem_of_getElem? (i := 846) rfl, rfl⟩
theorem am_wc_9 : Jvm.Cond.code (am_y 9) (am_by 9) (am_ml 9) (am_rty 9) ∈ am_gw := List.mem_filter.mpr ⟨List.mem_of_getElem? (i := 851) rfl, rfl⟩
theorem am_wc_10 : Jvm.Cond.code (am_y 10) (am_by 10) (am_ml 10) (am_rty 10) ∈ am_gw := List.mem_filter.mpr ⟨List.mem_of_getElem? (i := 900) rfl, rfl⟩
theorem am_wc_11 : Jvm.Cond.code (am_y 11) (am_by 11) (am_ml 11) (am_rty 11) ∈ am_gw := List.mem_filter.mpr ⟨List.mem_of_getElem? (i := 578) rfl, rfl⟩
theorem am_wc_12 : Jvm.Cond.code (am_y 12) (am_by 12) (am_ml 12) (am_rty 12) ∈ am_gw := List.mem_filter.mpr ⟨List.mem_of_getElem? (i := 578) rfl, rfl⟩
theorem am_wc_13 : Jvm.Cond.code (am_y 13) (am_by 13) (am_ml 13) (am_rty 13) ∈ am_gw := List.mem_filter.mpr ⟨List.mem_of_getElem? (i := 578) rfl, rfl⟩
theorem am_wc_14 : Jvm.Cond.code (am_y 14) (am_by 14) (am_ml 14) (am_rty 14) ∈ am_gw := List.mem_filter.mpr ⟨List.mem_of_getElem? (i := 420) rfl, rfl⟩
theorem am_wc_15 : Jvm.Cond.code (am_y 15) (am_by 15) (am_ml 15) (am_rty 15) ∈ am_gw := List.mem_filter.mpr ⟨List.mem_of_getElem? (i := 432) rfl, rfl⟩
theorem am_wc_16 : Jvm.Cond.code (am_y 16) (am_by 16) (am_ml 16) (am_rty 16) ∈ am_gw := List.mem_filter.mpr ⟨List.mem_of_getElem? (i := 450) rfl, rfl⟩
theorem am_wc_17 : Jvm.Cond.code (am_y 17) (am_by 17) (am_ml 17) (am_rty 17) ∈ am_gw := List.mem_filter.mpr ⟨List.mem_of_getElem? (i := 578) rfl, rfl⟩
theorem am_wc_18 : Jvm.Cond.code (am_y 18) (am_by 18) (am_ml 18) (am_rty 18) ∈ am_gw := List.mem_filter.mpr ⟨List.mem_of_getElem? (i := 940) rfl, rfl⟩
theorem am_wc_19 : Jvm.Cond.code (am_y 19) (am_by 19) (am_ml 19) (am_rty 19) ∈ am_gw := List.mem_filter.mpr ⟨List.mem_of_getElem? (i := 473) rfl, rfl⟩
theorem am_wc_20 : Jvm.Cond.code (am_y 20) (am_by 20) (am_ml 20) (am_rty 20) ∈ am_gw := List.mem_filter.mpr ⟨List.mem_of_getElem? (i := 502) rfl, rfl⟩
theorem am_wc_21 : Jvm.Cond.code (am_y 21) (am_by 21) (am_ml 21) (am_rty 21) ∈ am_gw := List.mem_filter.mpr ⟨List.mem_of_getElem? (i := 506) rfl, rfl⟩
theorem am_wc_22 : Jvm.Cond.code (am_y 22) (am_by 22) (am_ml 22) (am_rty 22) ∈ am_gw := List.mem_filter.mpr ⟨List.mem_of_getElem? (i := 510) rfl, rfl⟩
theorem am_wc_23 : Jvm.Cond.code (am_y 23) (am_by 23) (am_ml 23) (am_rty 23) ∈ am_gw := List.mem_filter.mpr ⟨List.mem_of_getElem? (i := 578) rfl, rfl⟩
theorem am_wc_24 : Jvm.Cond.code (am_y 24) (am_by 24) (am_ml 24) (am_rty 24) ∈ am_gw := List.mem_filter.mpr ⟨List.mem_of_getElem? (i := 578) rfl, rfl⟩
theorem am_wc_25 : Jvm.Cond.code (am_y 25) (am_by 25) (am_ml 25) (am_rty 25) ∈ am_gw := List.mem_filter.mpr ⟨List.mem_of_getElem? (i := 578) rfl, rfl⟩
theorem am_wc_26 : Jvm.Cond.code (am_y 26) (am_by 26) (am_ml 26) (am_rty 26) ∈ am_gw := List.mem_filter.mpr ⟨List.mem_of_getElem? (i := 525) rfl, rfl⟩
theorem am_wc_27 : Jvm.Cond.code (am_y 27) (am_by 27) (am_ml 27) (am_rty 27) ∈ am_gw := List.mem_filter.mpr ⟨List.mem_of_getElem? (i := 609) rfl, rfl⟩
theorem am_wc_28 : Jvm.Cond.code (am_y 28) (am_by 28) (am_ml 28) (am_rty 28) ∈ am_gw := List.mem_filter.mpr ⟨List.mem_of_getElem? (i := 633) rfl, rfl⟩
theorem am_wc_29 : Jvm.Cond.code (am_y 29) (am_by 29) (am_ml 29) (am_rty 29) ∈ am_gw := List.mem_filter.mpr ⟨List.mem_of_getElem? (i := 645) rfl, rfl⟩
theorem am_wc_30 : Jvm.Cond.code (am_y 30) (am_by 30) (am_ml 30) (am_rty 30) ∈ am_gw := List.mem_filter.mpr ⟨List.mem_of_getElem? (i := 659) rfl, rfl⟩
theorem am_wc_31 : Jvm.Cond.code (am_y 31) (am_by 31) (am_ml 31) (am_rty 31) ∈ am_gw := List.mem_filter.mpr ⟨List.mem_of_getElem? (i := 670) rfl, rfl⟩
theorem am_wc_32 : Jvm.Cond.code (am_y 32) (am_by 32) (am_ml 32) (am_rty 32) ∈ am_gw := List.mem_filter.mpr ⟨List.mem_of_getElem? (i := 681) rfl, rfl⟩
theorem am_wc_33 : Jvm.Cond.code (am_y 33) (am_by 33) (am_ml 33) (am_rty 33) ∈ am_gw := List.mem_filter.mpr ⟨List.mem_of_getElem? (i := 690) rfl, rfl⟩
theorem am_wc_34 : Jvm.Cond.code (am_y 34) (am_by 34) (am_ml 34) (am_rty 34) ∈ am_gw := List.mem_filter.mpr ⟨List.mem_of_getElem? (i := 578) rfl, rfl⟩
theorem am_wc_35 : Jvm.Cond.code (am_y 35) (am_by 35) (am_ml 35) (am_rty 35) ∈ am_gw := List.mem_filter.mpr ⟨List.mem_of_getElem? (i := 707) rfl, rfl⟩
theorem am_wc_36 : Jvm.Cond.code (am_y 36) (am_by 36) (am_ml 36) (am_rty 36) ∈ am_gw := List.mem_filter.mpr ⟨List.mem_of_getElem? (i := 720) rfl, rfl⟩
theorem am_wc_37 : Jvm.Cond.code (am_y 37) (am_by 37) (am_ml 37) (am_rty 37) ∈ am_gw := List.mem_filter.mpr ⟨List.mem_of_getElem? (i := 728) rfl, rfl⟩
theorem am_wc_38 : Jvm.Cond.code (am_y 38) (am_by 38) (am_ml 38) (am_rty 38) ∈ am_gw := List.mem_filter.mpr ⟨List.mem_of_getElem? (i := 732) rfl, rfl⟩
theorem am_wc_39 : Jvm.Cond.code (am_y 39) (am_by 39) (am_ml 39) (am_rty 39) ∈ am_gw := List.mem_filter.mpr ⟨List.mem_of_getElem? (i := 744) rfl, rfl⟩
theorem am_wc_40 : Jvm.Cond.code (am_y 40) (am_by 40) (am_ml 40) (am_rty 40) ∈ am_gw := List.mem_filter.mpr ⟨List.mem_of_getElem? (i := 578) rfl, rfl⟩
theorem am_wc_41 : Jvm.Cond.code (am_y 41) (am_by 41) (am_ml 41) (am_rty 41) ∈ am_gw := List.mem_filter.mpr ⟨List.mem_of_getElem? (i := 578) rfl, rfl⟩
theorem am_wc_42 : Jvm.Cond.code (am_y 42) (am_by 42) (am_ml 42) (am_rty 42) ∈ am_gw := List.mem_filter.mpr ⟨List.mem_of_getElem? (i := 749) rfl, rfl⟩
theorem am_wc_43 : Jvm.Cond.code (am_y 43) (am_by 43) (am_ml 43) (am_rty 43) ∈ am_gw := List.mem_filter.mpr ⟨List.mem_of_getElem? (i := 753) rfl, rfl⟩
theorem am_wc_44 : Jvm.Cond.code (am_y 44) (am_by 44) (am_ml 44) (am_rty 44) ∈ am_gw := List.mem_filter.mpr ⟨List.mem_of_getElem? (i := 578) rfl, rfl⟩
theorem am_wc_45 : Jvm.Cond.code (am_y 45) (am_by 45) (am_ml 45) (am_rty 45) ∈ am_gw := List.mem_filter.mpr ⟨List.mem_of_getElem? (i := 762) rfl, rfl⟩
theorem am_wc_46 : Jvm.Cond.code (am_y 46) (am_by 46) (am_ml 46) (am_rty 46) ∈ am_gw := List.mem_filter.mpr ⟨List.mem_of_getElem? (i := 578) rfl, rfl⟩
theorem am_wc_47 : Jvm.Cond.code (am_y 47) (am_by 47) (am_ml 47) (am_rty 47) ∈ am_gw := List.mem_filter.mpr ⟨List.mem_of_getElem? (i := 578) rfl, rfl⟩
theorem am_wc_48 : Jvm.Cond.code (am_y 48) (am_by 48) (am_ml 48) (am_rty 48) ∈ am_gw := List.mem_filter.mpr ⟨List.mem_of_getElem? (i := 757) rfl, rfl⟩
theorem am_wc_49 : Jvm.Cond.code (am_y 49) (am_by 49) (am_ml 49) (am_rty 49) ∈ am_gw := List.mem_filter.mpr ⟨List.mem_of_getElem? (i := 776) rfl, rfl⟩
theorem am_wc_50 : Jvm.Cond.code (am_y 50) (am_by 50) (am_ml 50) (am_rty 50) ∈ am_gw := List.mem_filter.mpr ⟨List.mem_of_getElem? (i := 453) rfl, rfl⟩
theorem am_wc_51 : Jvm.Cond.code (am_y 51) (am_by 51) (am_ml 51) (am_rty 51) ∈ am_gw := List.mem_filter.mpr ⟨List.mem_of_getElem? (i := 456) rfl, rfl⟩
theorem am_wc_52 : Jvm.Cond.code (am_y 52) (am_by 52) (am_ml 52) (am_rty 52) ∈ am_gw := List.mem_filter.mpr ⟨List.mem_of_getElem? (i := 677) rfl, rfl⟩
theorem am_wc_53 : Jvm.Cond.code (am_y 53) (am_by 53) (am_ml 53) (am_rty 53) ∈ am_gw := List.mem_filter.mpr ⟨List.mem_of_getElem? (i := 392) rfl, rfl⟩
theorem am_wc_54 : Jvm.Cond.code (am_y 54) (am_by 54) (am_ml 54) (am_rty 54) ∈ am_gw := List.mem_filter.mpr ⟨List.mem_of_getElem? (i := 773) rfl, rfl⟩
theorem am_wc_55 : Jvm.Cond.code (am_y 55) (am_by 55) (am_ml 55) (am_rty 55) ∈ am_gw := List.mem_filter.mpr ⟨List.mem_of_getElem? (i := 832) rfl, rfl⟩
theorem am_wc_56 : Jvm.Cond.code (am_y 56) (am_by 56) (am_ml 56) (am_rty 56) ∈ am_gw := List.mem_filter.mpr ⟨List.mem_of_getElem? (i := 400) rfl, rfl⟩
theorem am_wc_57 : Jvm.Cond.code (am_y 57) (am_by 57) (am_ml 57) (am_rty 57) ∈ am_gw := List.mem_filter.mpr ⟨List.mem_of_getElem? (i := 396) rfl, rfl⟩
theorem am_wc_58 : Jvm.Cond.code (am_y 58) (am_by 58) (am_ml 58) (am_rty 58) ∈ am_gw := List.mem_filter.mpr ⟨List.mem_of_getElem? (i := 711) rfl, rfl⟩
theorem am_wc_59 : Jvm.Cond.code (am_y 59) (am_by 59) (am_ml 59) (am_rty 59) ∈ am_gw := List.mem_filter.mpr ⟨List.mem_of_getElem? (i := 424) rfl, rfl⟩
theorem am_wc_60 : Jvm.Cond.code (am_y 60) (am_by 60) (am_ml 60) (am_rty 60) ∈ am_gw := List.mem_filter.mpr ⟨List.mem_of_getElem? (i := 436) rfl, rfl⟩
theorem am_wc_61 : Jvm.Cond.code (am_y 61) (am_by 61) (am_ml 61) (am_rty 61) ∈ am_gw := List.mem_filter.mpr ⟨List.mem_of_getElem? (i := 785) rfl, rfl⟩
theorem am_wc_62 : Jvm.Cond.code (am_y 62) (am_by 62) (am_ml 62) (am_rty 62) ∈ am_gw := List.mem_filter.mpr ⟨List.mem_of_getElem? (i := 460) rfl, rfl⟩
theorem am_wc_63 : Jvm.Cond.code (am_y 63) (am_by 63) (am_ml 63) (am_rty 63) ∈ am_gw := List.mem_filter.mpr ⟨List.mem_of_getElem? (i := 694) rfl, rfl⟩
theorem am_wc_64 : Jvm.Cond.code (am_y 64) (am_by 64) (am_ml 64) (am_rty 64) ∈ am_gw := List.mem_filter.mpr ⟨List.mem_of_getElem? (i := 578) rfl, rfl⟩
theorem am_wc_65 : Jvm.Cond.code (am_y 65) (am_by 65) (am_ml 65) (am_rty 65) ∈ am_gw := List.mem_filter.mpr ⟨List.mem_of_getElem? (i := 578) rfl, rfl⟩
theorem am_wc_66 : Jvm.Cond.code (am_y 66) (am_by 66) (am_ml 66) (am_rty 66) ∈ am_gw := List.mem_filter.mpr ⟨List.mem_of_getElem? (i := 578) rfl, rfl⟩
theorem am_wc_67 : Jvm.Cond.code (am_y 67) (am_by 67) (am_ml 67) (am_rty 67) ∈ am_gw := List.mem_filter.mpr ⟨List.mem_of_getElem? (i := 578) rfl, rfl⟩
theorem am_wc_68 : Jvm.Cond.code (am_y 68) (am_by 68) (am_ml 68) (am_rty 68) ∈ am_gw := List.mem_filter.mpr ⟨List.mem_of_getElem? (i := 804) rfl, rfl⟩
theorem am_wc_69 : Jvm.Cond.code (am_y 69) (am_by 69) (am_ml 69) (am_rty 69) ∈ am_gw := List.mem_filter.mpr ⟨List.mem_of_getElem? (i := 812) rfl, rfl⟩
theorem am_wc_70 : Jvm.Cond.code (am_y 70) (am_by 70) (am_ml 70) (am_rty 70) ∈ am_gw := List.mem_filter.mpr ⟨List.mem_of_getElem? (i := 809) rfl, rfl⟩
theorem am_wc_71 : Jvm.Cond.code (am_y 71) (am_by 71) (am_ml 71) (am_rty 71) ∈ am_gw := List.mem_filter.mpr ⟨List.mem_of_getElem? (i := 815) rfl, rfl⟩
theorem am_wc_72 : Jvm.Cond.code (am_y 72) (am_by 72) (am_ml 72) (am_rty 72) ∈ am_gw := List.mem_filter.mpr ⟨List.mem_of_getElem? (i := 818) rfl, rfl⟩
theorem am_wc_73 : Jvm.Cond.code (am_y 73) (am_by 73) (am_ml 73) (am_rty 73) ∈ am_gw := List.mem_filter.mpr ⟨List.mem_of_getElem? (i := 839) rfl, rfl⟩
theorem am_wc_74 : Jvm.Cond.code (am_y 74) (am_by 74) (am_ml 74) (am_rty 74) ∈ am_gw := List.mem_filter.mpr ⟨List.mem_of_getElem? (i := 842) rfl, rfl⟩
theorem am_wc_75 : Jvm.Cond.code (am_y 75) (am_by 75) (am_ml 75) (am_rty 75) ∈ am_gw := List.mem_filter.mpr ⟨List.mem_of_getElem? (i := 821) rfl, rfl⟩
theorem am_wc_76 : Jvm.Cond.code (am_y 76) (am_by 76) (am_ml 76) (am_rty 76) ∈ am_gw := List.mem_filter.mpr ⟨List.mem_of_getElem? (i := 836) rfl, rfl⟩
theorem am_wc_77 : Jvm.Cond.code (am_y 77) (am_by 77) (am_ml 77) (am_rty 77) ∈ am_gw := List.mem_filter.mpr ⟨List.mem_of_getElem? (i := 824) rfl, rfl⟩
theorem am_wc_78 : Jvm.Cond.code (am_y 78) (am_by 78) (am_ml 78) (am_rty 78) ∈ am_gw := List.mem_filter.mpr ⟨List.mem_of_getElem? (i := 936) rfl, rfl⟩
theorem am_wc_79 : Jvm.Cond.code (am_y 79) (am_by 79) (am_ml 79) (am_rty 79) ∈ am_gw := List.mem_filter.mpr ⟨List.mem_of_getElem? (i := 578) rfl, rfl⟩
theorem am_wc_80 : Jvm.Cond.code (am_y 80) (am_by 80) (am_ml 80) (am_rty 80) ∈ am_gw := List.mem_filter.mpr ⟨List.mem_of_getElem? (i := 578) rfl, rfl⟩
theorem am_wc_81 : Jvm.Cond.code (am_y 81) (am_by 81) (am_ml 81) (am_rty 81) ∈ am_gw := List.mem_filter.mpr ⟨List.mem_of_getElem? (i := 578) rfl, rfl⟩
theorem am_wc_82 : Jvm.Cond.code (am_y 82) (am_by 82) (am_ml 82) (am_rty 82) ∈ am_gw := List.mem_filter.mpr ⟨List.mem_of_getElem? (i := 578) rfl, rfl⟩
theorem am_wc_83 : Jvm.Cond.code (am_y 83) (am_by 83) (am_ml 83) (am_rty 83) ∈ am_gw := List.mem_filter.mpr ⟨List.mem_of_getElem? (i := 578) rfl, rfl⟩
theorem am_wc_84 : Jvm.Cond.code (am_y 84) (am_by 84) (am_ml 84) (am_rty 84) ∈ am_gw := List.mem_filter.mpr ⟨List.mem_of_getElem? (i := 578) rfl, rfl⟩
theorem am_wc_85 : Jvm.Cond.code (am_y 85) (am_by 85) (am_ml 85) (am_rty 85) ∈ am_gw := List.mem_filter.mpr ⟨List.mem_of_getElem? (i := 578) rfl, rfl⟩
theorem am_wc_86 : Jvm.Cond.code (am_y 86) (am_by 86) (am_ml 86) (am_rty 86) ∈ am_gw := List.mem_filter.mpr ⟨List.mem_of_getElem? (i := 578) rfl, rfl⟩
theorem am_wc_87 : Jvm.Cond.code (am_y 87) (am_by 87) (am_ml 87) (am_rty 87) ∈ am_gw := List.mem_filter.mpr ⟨List.mem_of_getElem? (i := 578) rfl, rfl⟩
theorem am_wc_88 : Jvm.Cond.code (am_y 88) (am_by 88) (am_ml 88) (am_rty 88) ∈ am_gw := List.mem_filter.mpr ⟨List.mem_of_getElem? (i := 578) rfl, rfl⟩
theorem am_wc_89 : Jvm.Cond.code (am_y 89) (am_by 89) (am_ml 89) (am_rty 89) ∈ am_gw := List.mem_filter.mpr ⟨List.mem_of_getElem? (i := 578) rfl, rfl⟩
theorem am_wc_90 : Jvm.Cond.code (am_y 90) (am_by 90) (am_ml 90) (am_rty 90) ∈ am_gw := List.mem_filter.mpr ⟨List.mem_of_getElem? (i := 578) rfl, rfl⟩
theorem am_wc_91 : Jvm.Cond.code (am_y 91) (am_by 91) (am_ml 91) (am_rty 91) ∈ am_gw := List.mem_filter.mpr ⟨List.mem_of_getElem? (i := 578) rfl, rfl⟩
theorem am_wc_92 : Jvm.Cond.code (am_y 92) (am_by 92) (am_ml 92) (am_rty 92) ∈ am_gw := List.mem_filter.mpr ⟨List.mem_of_getElem? (i := 578) rfl, rfl⟩
theorem am_wc_93 : Jvm.Cond.code (am_y 93) (am_by 93) (am_ml 93) (am_rty 93) ∈ am_gw := List.mem_filter.mpr ⟨List.mem_of_getElem? (i := 578) rfl, rfl⟩
theorem am_wc_94 : Jvm.Cond.code (am_y 94) (am_by 94) (am_ml 94) (am_rty 94) ∈ am_gw := List.mem_filter.mpr ⟨List.mem_of_getElem? (i := 578) rfl, rfl⟩
theorem am_wc_95 : Jvm.Cond.code (am_y 95) (am_by 95) (am_ml 95) (am_rty 95) ∈ am_gw := List.mem_filter.mpr ⟨List.mem_of_getElem? (i := 578) rfl, rfl⟩
theorem am_wc_96 : Jvm.Cond.code (am_y 96) (am_by 96) (am_ml 96) (am_rty 96) ∈ am_gw := List.mem_filter.mpr ⟨List.mem_of_getElem? (i := 578) rfl, rfl⟩
theorem am_wc_97 : Jvm.Cond.code (am_y 97) (am_by 97) (am_ml 97) (am_rty 97) ∈ am_gw := List.mem_filter.mpr ⟨List.mem_of_getElem? (i := 578) rfl, rfl⟩
theorem am_wc_98 : Jvm.Cond.code (am_y 98) (am_by 98) (am_ml 98) (am_rty 98) ∈ am_gw := List.mem_filter.mpr ⟨List.mem_of_getElem? (i := 578) rfl, rfl⟩
theorem am_wc_99 : Jvm.Cond.code (am_y 99) (am_by 99) (am_ml 99) (am_rty 99) ∈ am_gw := List.mem_filter.mpr ⟨List.mem_of_getElem? (i := 578) rfl, rfl⟩
theorem am_wc_100 : Jvm.Cond.code (am_y 100) (am_by 100) (am_ml 100) (am_rty 100) ∈ am_gw := List.mem_filter.mpr ⟨List.mem_of_getElem? (i := 578) rfl, rfl⟩
theorem am_wc_101 : Jvm.Cond.code (am_y 101) (am_by 101) (am_ml 101) (am_rty 101) ∈ am_gw := List.mem_filter.mpr ⟨List.mem_of_getElem? (i := 578) rfl, rfl⟩
theorem am_wc_102 : Jvm.Cond.code (am_y 102) (am_by 102) (am_ml 102) (am_rty 102) ∈ am_gw := List.mem_filter.mpr ⟨List.mem_of_getElem? (i := 578) rfl, rfl⟩
theorem am_wc_103 : Jvm.Cond.code (am_y 103) (am_by 103) (am_ml 103) (am_rty 103) ∈ am_gw := List.mem_filter.mpr ⟨List.mem_of_getElem? (i := 578) rfl, rfl⟩
theorem am_wc_104 : Jvm.Cond.code (am_y 104) (am_by 104) (am_ml 104) (am_rty 104) ∈ am_gw := List.mem_filter.mpr ⟨List.mem_of_getElem? (i := 578) rfl, rfl⟩
theorem am_wc_105 : Jvm.Cond.code (am_y 105) (am_by 105) (am_ml 105) (am_rty 105) ∈ am_gw := List.mem_filter.mpr ⟨List.mem_of_getElem? (i := 578) rfl, rfl⟩
theorem am_wc_106 : Jvm.Cond.code (am_y 106) (am_by 106) (am_ml 106) (am_rty 106) ∈ am_gw := List.mem_filter.mpr ⟨List.mem_of_getElem? (i := 578) rfl, rfl⟩
theorem am_wc_107 : Jvm.Cond.code (am_y 107) (am_by 107) (am_ml 107) (am_rty 107) ∈ am_gw := List.mem_filter.mpr ⟨List.mem_of_getElem? (i := 578) rfl, rfl⟩
theorem am_wc_108 : Jvm.Cond.code (am_y 108) (am_by 108) (am_ml 108) (am_rty 108) ∈ am_gw := List.mem_filter.mpr ⟨List.mem_of_getElem? (i := 578) rfl, rfl⟩
theorem am_wc_109 : Jvm.Cond.code (am_y 109) (am_by 109) (am_ml 109) (am_rty 109) ∈ am_gw := List.mem_filter.mpr ⟨List.mem_of_getElem? (i := 578) rfl, rfl⟩
theorem am_wc_110 : Jvm.Cond.code (am_y 110) (am_by 110) (am_ml 110) (am_rty 110) ∈ am_gw := List.mem_filter.mpr ⟨List.mem_of_getElem? (i := 578) rfl, rfl⟩
theorem am_wc_111 : Jvm.Cond.code (am_y 111) (am_by 111) (am_ml 111) (am_rty 111) ∈ am_gw := List.mem_filter.mpr ⟨List.mem_of_getElem? (i := 578) rfl, rfl⟩
theorem am_wc_112 : Jvm.Cond.code (am_y 112) (am_by 112) (am_ml 112) (am_rty 112) ∈ am_gw := List.mem_filter.mpr ⟨List.mem_of_getElem? (i := 578) rfl, rfl⟩
theorem am_wc_113 : Jvm.Cond.code (am_y 113) (am_by 113) (am_ml 113) (am_rty 113) ∈ am_gw := List.mem_filter.mpr ⟨List.mem_of_getElem? (i := 578) rfl, rfl⟩
theorem am_wc_114 : Jvm.Cond.code (am_y 114) (am_by 114) (am_ml 114) (am_rty 114) ∈ am_gw := List.mem_filter.mpr ⟨List.mem_of_getElem? (i := 578) rfl, rfl⟩
theorem am_wc_115 : Jvm.Cond.code (am_y 115) (am_by 115) (am_ml 115) (am_rty 115) ∈ am_gw := List.mem_filter.mpr ⟨List.mem_of_getElem? (i := 578) rfl, rfl⟩
theorem am_wc_116 : Jvm.Cond.code (am_y 116) (am_by 116) (am_ml 116) (am_rty 116) ∈ am_gw := List.mem_filter.mpr ⟨List.mem_of_getElem? (i := 578) rfl, rfl⟩
theorem am_wc_117 : Jvm.Cond.code (am_y 117) (am_by 117) (am_ml 117) (am_rty 117) ∈ am_gw := List.mem_filter.mpr ⟨List.mem_of_getElem? (i := 578) rfl, rfl⟩
theorem am_wc_118 : Jvm.Cond.code (am_y 118) (am_by 118) (am_ml 118) (am_rty 118) ∈ am_gw := List.mem_filter.mpr ⟨List.mem_of_getElem? (i := 578) rfl, rfl⟩
theorem am_wc_119 : Jvm.Cond.code (am_y 119) (am_by 119) (am_ml 119) (am_rty 119) ∈ am_gw := List.mem_filter.mpr ⟨List.mem_of_getElem? (i := 578) rfl, rfl⟩
theorem am_wc_120 : Jvm.Cond.code (am_y 120) (am_by 120) (am_ml 120) (am_rty 120) ∈ am_gw := List.mem_filter.mpr ⟨List.mem_of_getElem? (i := 578) rfl, rfl⟩
theorem am_wc_121 : Jvm.Cond.code (am_y 121) (am_by 121) (am_ml 121) (am_rty 121) ∈ am_gw := List.mem_filter.mpr ⟨List.mem_of_getElem? (i := 578) rfl, rfl⟩
theorem am_wc_122 : Jvm.Cond.code (am_y 122) (am_by 122) (am_ml 122) (am_rty 122) ∈ am_gw := List.mem_filter.mpr ⟨List.mem_of_getElem? (i := 578) rfl, rfl⟩
theorem am_wc_123 : Jvm.Cond.code (am_y 123) (am_by 123) (am_ml 123) (am_rty 123) ∈ am_gw := List.mem_filter.mpr ⟨List.mem_of_getElem? (i := 578) rfl, rfl⟩
theorem am_wc_124 : Jvm.Cond.code (am_y 124) (am_by 124) (am_ml 124) (am_rty 124) ∈ am_gw := List.mem_filter.mpr ⟨List.mem_of_getElem? (i := 578) rfl, rfl⟩
theorem am_wc_125 : Jvm.Cond.code (am_y 125) (am_by 125) (am_ml 125) (am_rty 125) ∈ am_gw := List.mem_filter.mpr ⟨List.mem_of_getElem? (i := 578) rfl, rfl⟩
theorem am_wc_126 : Jvm.Cond.code (am_y 126) (am_by 126) (am_ml 126) (am_rty 126) ∈ am_gw := List.mem_filter.mpr ⟨List.mem_of_getElem? (i := 578) rfl, rfl⟩
theorem am_wc_127 : Jvm.Cond.code (am_y 127) (am_by 127) (am_ml 127) (am_rty 127) ∈ am_gw := List.mem_filter.mpr ⟨List.mem_of_getElem? (i := 578) rfl, rfl⟩
theorem am_wc_128 : Jvm.Cond.code (am_y 128) (am_by 128) (am_ml 128) (am_rty 128) ∈ am_gw := List.mem_filter.mpr ⟨List.mem_of_getElem? (i := 578) rfl, rfl⟩
theorem am_wc_129 : Jvm.Cond.code (am_y 129) (am_by 129) (am_ml 129) (am_rty 129) ∈ am_gw := List.mem_filter.mpr ⟨List.mem_of_getElem? (i := 578) rfl, rfl⟩
theorem am_wc_130 : Jvm.Cond.code (am_y 130) (am_by 130) (am_ml 130) (am_rty 130) ∈ am_gw := List.mem_filter.mpr ⟨List.mem_of_getElem? (i := 578) rfl, rfl⟩
theorem am_wc_131 : Jvm.Cond.code (am_y 131) (am_by 131) (am_ml 131) (am_rty 131) ∈ am_gw := List.mem_filter.mpr ⟨List.mem_of_getElem? (i := 578) rfl, rfl⟩
theorem am_wc_132 : Jvm.Cond.code (am_y 132) (am_by 132) (am_ml 132) (am_rty 132) ∈ am_gw := List.mem_filter.mpr ⟨List.mem_of_getElem? (i := 578) rfl, rfl⟩
theorem am_wc_133 : Jvm.Cond.code (am_y 133) (am_by 133) (am_ml 133) (am_rty 133) ∈ am_gw := List.mem_filter.mpr ⟨List.mem_of_getElem? (i := 578) rfl, rfl⟩
theorem am_wc_134 : Jvm.Cond.code (am_y 134) (am_by 134) (am_ml 134) (am_rty 134) ∈ am_gw := List.mem_filter.mpr ⟨List.mem_of_getElem? (i := 578) rfl, rfl⟩
theorem am_wc_135 : Jvm.Cond.code (am_y 135) (am_by 135) (am_ml 135) (am_rty 135) ∈ am_gw := List.mem_filter.mpr ⟨List.mem_of_getElem? (i := 578) rfl, rfl⟩
theorem am_wc_136 : Jvm.Cond.code (am_y 136) (am_by 136) (am_ml 136) (am_rty 136) ∈ am_gw := List.mem_filter.mpr ⟨List.mem_of_getElem? (i := 578) rfl, rfl⟩
theorem am_wc_137 : Jvm.Cond.code (am_y 137) (am_by 137) (am_ml 137) (am_rty 137) ∈ am_gw := List.mem_filter.mpr ⟨List.mem_of_getElem? (i := 578) rfl, rfl⟩
theorem am_wc_138 : Jvm.Cond.code (am_y 138) (am_by 138) (am_ml 138) (am_rty 138) ∈ am_gw := List.mem_filter.mpr ⟨List.mem_of_getElem? (i := 578) rfl, rfl⟩
theorem am_wc_139 : Jvm.Cond.code (am_y 139) (am_by 139) (am_ml 139) (am_rty 139) ∈ am_gw := List.mem_filter.mpr ⟨List.mem_of_getElem? (i := 578) rfl, rfl⟩
theorem am_wc_140 : Jvm.Cond.code (am_y 140) (am_by 140) (am_ml 140) (am_rty 140) ∈ am_gw := List.mem_filter.mpr ⟨List.mem_of_getElem? (i := 578) rfl, rfl⟩
theorem am_wc_141 : Jvm.Cond.code (am_y 141) (am_by 141) (am_ml 141) (am_rty 141) ∈ am_gw := List.mem_filter.mpr ⟨List.mem_of_getElem? (i := 578) rfl, rfl⟩
theorem am_wc_142 : Jvm.Cond.code (am_y 142) (am_by 142) (am_ml 142) (am_rty 142) ∈ am_gw := List.mem_filter.mpr ⟨List.mem_of_getElem? (i := 578) rfl, rfl⟩
theorem am_wc_143 : Jvm.Cond.code (am_y 143) (am_by 143) (am_ml 143) (am_rty 143) ∈ am_gw := List.mem_filter.mpr ⟨List.mem_of_getElem? (i := 578) rfl, rfl⟩
theorem am_wc_144 : Jvm.Cond.code (am_y 144) (am_by 144) (am_ml 144) (am_rty 144) ∈ am_gw := List.mem_filter.mpr ⟨List.mem_of_getElem? (i := 578) rfl, rfl⟩
theorem am_wc_145 : Jvm.Cond.code (am_y 145) (am_by 145) (am_ml 145) (am_rty 145) ∈ am_gw := List.mem_filter.mpr ⟨List.mem_of_getElem? (i := 578) rfl, rfl⟩
theorem am_wc_146 : Jvm.Cond.code (am_y 146) (am_by 146) (am_ml 146) (am_rty 146) ∈ am_gw := List.mem_filter.mpr ⟨List.mem_of_getElem? (i := 578) rfl, rfl⟩
theorem am_wc_147 : Jvm.Cond.code (am_y 147) (am_by 147) (am_ml 147) (am_rty 147) ∈ am_gw := List.mem_filter.mpr ⟨List.mem_of_getElem? (i := 578) rfl, rfl⟩
theorem am_wc_148 : Jvm.Cond.code (am_y 148) (am_by 148) (am_ml 148) (am_rty 148) ∈ am_gw := List.mem_filter.mpr ⟨List.mem_of_getElem? (i := 578) rfl, rfl⟩
theorem am_wc_149 : Jvm.Cond.code (am_y 149) (am_by 149) (am_ml 149) (am_rty 149) ∈ am_gw := List.mem_filter.mpr ⟨List.mem_of_getElem? (i := 578) rfl, rfl⟩
theorem am_wc_150 : Jvm.Cond.code (am_y 150) (am_by 150) (am_ml 150) (am_rty 150) ∈ am_gw := List.mem_filter.mpr ⟨List.mem_of_getElem? (i := 578) rfl, rfl⟩
theorem am_wc_151 : Jvm.Cond.code (am_y 151) (am_by 151) (am_ml 151) (am_rty 151) ∈ am_gw := List.mem_filter.mpr ⟨List.mem_of_getElem? (i := 578) rfl, rfl⟩
theorem am_wc_152 : Jvm.Cond.code (am_y 152) (am_by 152) (am_ml 152) (am_rty 152) ∈ am_gw := List.mem_filter.mpr ⟨List.mem_of_getElem? (i := 578) rfl, rfl⟩
theorem am_wc_153 : Jvm.Cond.code (am_y 153) (am_by 153) (am_ml 153) (am_rty 153) ∈ am_gw := List.mem_filter.mpr ⟨List.mem_of_getElem? (i := 578) rfl, rfl⟩
theorem am_wc_154 : Jvm.Cond.code (am_y 154) (am_by 154) (am_ml 154) (am_rty 154) ∈ am_gw := List.mem_filter.mpr ⟨List.mem_of_getElem? (i := 578) rfl, rfl⟩
theorem am_wc_155 : Jvm.Cond.code (am_y 155) (am_by 155) (am_ml 155) (am_rty 155) ∈ am_gw := List.mem_filter.mpr ⟨List.mem_of_getElem? (i := 578) rfl, rfl⟩
theorem am_wc_156 : Jvm.Cond.code (am_y 156) (am_by 156) (am_ml 156) (am_rty 156) ∈ am_gw := List.mem_filter.mpr ⟨List.mem_of_getElem? (i := 578) rfl, rfl⟩
theorem am_wc_157 : Jvm.Cond.code (am_y 157) (am_by 157) (am_ml 157) (am_rty 157) ∈ am_gw := List.mem_filter.mpr ⟨List.mem_of_getElem? (i := 578) rfl, rfl⟩
theorem am_wc_158 : Jvm.Cond.code (am_y 158) (am_by 158) (am_ml 158) (am_rty 158) ∈ am_gw := List.mem_filter.mpr ⟨List.mem_of_getElem? (i := 578) rfl, rfl⟩
theorem am_wc_159 : Jvm.Cond.code (am_y 159) (am_by 159) (am_ml 159) (am_rty 159) ∈ am_gw := List.mem_filter.mpr ⟨List.mem_of_getElem? (i := 578) rfl, rfl⟩
theorem am_wc_160 : Jvm.Cond.code (am_y 160) (am_by 160) (am_ml 160) (am_rty 160) ∈ am_gw := List.mem_filter.mpr ⟨List.mem_of_getElem? (i := 578) rfl, rfl⟩
theorem am_wc_161 : Jvm.Cond.code (am_y 161) (am_by 161) (am_ml 161) (am_rty 161) ∈ am_gw := List.mem_filter.mpr ⟨List.mem_of_getElem? (i := 578) rfl, rfl⟩
theorem am_wc_162 : Jvm.Cond.code (am_y 162) (am_by 162) (am_ml 162) (am_rty 162) ∈ am_gw := List.mem_filter.mpr ⟨List.mem_of_getElem? (i := 578) rfl, rfl⟩
theorem am_wc_163 : Jvm.Cond.code (am_y 163) (am_by 163) (am_ml 163) (am_rty 163) ∈ am_gw := List.mem_filter.mpr ⟨List.mem_of_getElem? (i := 578) rfl, rfl⟩
theorem am_wc_164 : Jvm.Cond.code (am_y 164) (am_by 164) (am_ml 164) (am_rty 164) ∈ am_gw := List.mem_filter.mpr ⟨List.mem_of_getElem? (i := 578) rfl, rfl⟩
theorem am_wc_165 : Jvm.Cond.code (am_y 165) (am_by 165) (am_ml 165) (am_rty 165) ∈ am_gw := List.mem_filter.mpr ⟨List.mem_of_getElem? (i := 578) rfl, rfl⟩
theorem am_wc_166 : Jvm.Cond.code (am_y 166) (am_by 166) (am_ml 166) (am_rty 166) ∈ am_gw := List.mem_filter.mpr ⟨List.mem_of_getElem? (i := 291) rfl, rfl⟩
theorem am_wc_167 : Jvm.Cond.code (am_y 167) (am_by 167) (am_ml 167) (am_rty 167) ∈ am_gw := List.mem_filter.mpr ⟨List.mem_of_getElem? (i := 578) rfl, rfl⟩
theorem am_wc_168 : Jvm.Cond.code (am_y 168) (am_by 168) (am_ml 168) (am_rty 168) ∈ am_gw := List.mem_filter.mpr ⟨List.mem_of_getElem? (i := 578) rfl, rfl⟩
theorem am_wc_169 : Jvm.Cond.code (am_y 169) (am_by 169) (am_ml 169) (am_rty 169) ∈ am_gw := List.mem_filter.mpr ⟨List.mem_of_getElem? (i := 578) rfl, rfl⟩
theorem am_wc_170 : Jvm.Cond.code (am_y 170) (am_by 170) (am_ml 170) (am_rty 170) ∈ am_gw := List.mem_filter.mpr ⟨List.mem_of_getElem? (i := 578) rfl, rfl⟩
theorem am_wc_171 : Jvm.Cond.code (am_y 171) (am_by 171) (am_ml 171) (am_rty 171) ∈ am_gw := List.mem_filter.mpr ⟨List.mem_of_getElem? (i := 165) rfl, rfl⟩
theorem am_wc_172 : Jvm.Cond.code (am_y 172) (am_by 172) (am_ml 172) (am_rty 172) ∈ am_gw := List.mem_filter.mpr ⟨List.mem_of_getElem? (i := 464) rfl, rfl⟩
theorem am_wc_173 : Jvm.Cond.code (am_y 173) (am_by 173) (am_ml 173) (am_rty 173) ∈ am_gw := List.mem_filter.mpr ⟨List.mem_of_getElem? (i := 428) rfl, rfl⟩
theorem am_wc_174 : Jvm.Cond.code (am_y 174) (am_by 174) (am_ml 174) (am_rty 174) ∈ am_gw := List.mem_filter.mpr ⟨List.mem_of_getElem? (i := 242) rfl, rfl⟩
theorem am_wc_175 : Jvm.Cond.code (am_y 175) (am_by 175) (am_ml 175) (am_rty 175) ∈ am_gw := List.mem_filter.mpr ⟨List.mem_of_getElem? (i := 563) rfl, rfl⟩
theorem am_wc_176 : Jvm.Cond.code (am_y 176) (am_by 176) (am_ml 176) (am_rty 176) ∈ am_gw := List.mem_filter.mpr ⟨List.mem_of_getElem? (i := 560) rfl, rfl⟩
theorem am_wc_177 : Jvm.Cond.code (am_y 177) (am_by 177) (am_ml 177) (am_rty 177) ∈ am_gw := List.mem_filter.mpr ⟨List.mem_of_getElem? (i := 575) rfl, rfl⟩
theorem am_wc_178 : Jvm.Cond.code (am_y 178) (am_by 178) (am_ml 178) (am_rty 178) ∈ am_gw := List.mem_filter.mpr ⟨List.mem_of_getElem? (i := 578) rfl, rfl⟩
theorem am_wc_179 : Jvm.Cond.code (am_y 179) (am_by 179) (am_ml 179) (am_rty 179) ∈ am_gw := List.mem_filter.mpr ⟨List.mem_of_getElem? (i := 529) rfl, rfl⟩
theorem am_wc_180 : Jvm.Cond.code (am_y 180) (am_by 180) (am_ml 180) (am_rty 180) ∈ am_gw := List.mem_filter.mpr ⟨List.mem_of_getElem? (i := 534) rfl, rfl⟩
theorem am_wc_181 : Jvm.Cond.code (am_y 181) (am_by 181) (am_ml 181) (am_rty 181) ∈ am_gw := List.mem_filter.mpr ⟨List.mem_of_getElem? (i := 570) rfl, rfl⟩
theorem am_wc_182 : Jvm.Cond.code (am_y 182) (am_by 182) (am_ml 182) (am_rty 182) ∈ am_gw := List.mem_filter.mpr ⟨List.mem_of_getElem? (i := 582) rfl, rfl⟩
theorem am_wc_183 : Jvm.Cond.code (am_y 183) (am_by 183) (am_ml 183) (am_rty 183) ∈ am_gw := List.mem_filter.mpr ⟨List.mem_of_getElem? (i := 586) rfl, rfl⟩
theorem am_wc_184 : Jvm.Cond.code (am_y 184) (am_by 184) (am_ml 184) (am_rty 184) ∈ am_gw := List.mem_filter.mpr ⟨List.mem_of_getElem? (i := 543) rfl, rfl⟩
theorem am_wc_185 : Jvm.Cond.code (am_y 185) (am_by 185) (am_ml 185) (am_rty 185) ∈ am_gw := List.mem_filter.mpr ⟨List.mem_of_getElem? (i := 547) rfl, rfl⟩
theorem am_wc_186 : Jvm.Cond.code (am_y 186) (am_by 186) (am_ml 186) (am_rty 186) ∈ am_gw := List.mem_filter.mpr ⟨List.mem_of_getElem? (i := 551) rfl, rfl⟩
theorem am_wc_187 : Jvm.Cond.code (am_y 187) (am_by 187) (am_ml 187) (am_rty 187) ∈ am_gw := List.mem_filter.mpr ⟨List.mem_of_getElem? (i := 698) rfl, rfl⟩
theorem am_wc_188 : Jvm.Cond.code (am_y 188) (am_by 188) (am_ml 188) (am_rty 188) ∈ am_gw := List.mem_filter.mpr ⟨List.mem_of_getElem? (i := 702) rfl, rfl⟩
theorem am_wc_189 : Jvm.Cond.code (am_y 189) (am_by 189) (am_ml 189) (am_rty 189) ∈ am_gw := List.mem_filter.mpr ⟨List.mem_of_getElem? (i := 590) rfl, rfl⟩
theorem am_wc_190 : Jvm.Cond.code (am_y 190) (am_by 190) (am_ml 190) (am_rty 190) ∈ am_gw := List.mem_filter.mpr ⟨List.mem_of_getElem? (i := 595) rfl, rfl⟩
theorem am_wc_191 : Jvm.Cond.code (am_y 191) (am_by 191) (am_ml 191) (am_rty 191) ∈ am_gw := List.mem_filter.mpr ⟨List.mem_of_getElem? (i := 613) rfl, rfl⟩
theorem am_wc_192 : Jvm.Cond.code (am_y 192) (am_by 192) (am_ml 192) (am_rty 192) ∈ am_gw := List.mem_filter.mpr ⟨List.mem_of_getElem? (i := 740) rfl, rfl⟩
theorem am_wc_193 : Jvm.Cond.code (am_y 193) (am_by 193) (am_ml 193) (am_rty 193) ∈ am_gw := List.mem_filter.mpr ⟨List.mem_of_getElem? (i := 617) rfl, rfl⟩
theorem am_wc_194 : Jvm.Cond.code (am_y 194) (am_by 194) (am_ml 194) (am_rty 194) ∈ am_gw := List.mem_filter.mpr ⟨List.mem_of_getElem? (i := 621) rfl, rfl⟩
theorem am_wc_195 : Jvm.Cond.code (am_y 195) (am_by 195) (am_ml 195) (am_rty 195) ∈ am_gw := List.mem_filter.mpr ⟨List.mem_of_getElem? (i := 641) rfl, rfl⟩
theorem am_wc_196 : Jvm.Cond.code (am_y 196) (am_by 196) (am_ml 196) (am_rty 196) ∈ am_gw := List.mem_filter.mpr ⟨List.mem_of_getElem? (i := 637) rfl, rfl⟩
theorem am_wc_197 : Jvm.Cond.code (am_y 197) (am_by 197) (am_ml 197) (am_rty 197) ∈ am_gw := List.mem_filter.mpr ⟨List.mem_of_getElem? (i := 674) rfl, rfl⟩
theorem am_wc_198 : Jvm.Cond.code (am_y 198) (am_by 198) (am_ml 198) (am_rty 198) ∈ am_gw := List.mem_filter.mpr ⟨List.mem_of_getElem? (i := 685) rfl, rfl⟩
theorem am_wc_199 : Jvm.Cond.code (am_y 199) (am_by 199) (am_ml 199) (am_rty 199) ∈ am_gw := List.mem_filter.mpr ⟨List.mem_of_getElem? (i := 578) rfl, rfl⟩
theorem am_wc_200 : Jvm.Cond.code (am_y 200) (am_by 200) (am_ml 200) (am_rty 200) ∈ am_gw := List.mem_filter.mpr ⟨List.mem_of_getElem? (i := 578) rfl, rfl⟩
theorem am_wc_201 : Jvm.Cond.code (am_y 201) (am_by 201) (am_ml 201) (am_rty 201) ∈ am_gw := List.mem_filter.mpr ⟨List.mem_of_getElem? (i := 62) rfl, rfl⟩
theorem am_wc_202 : Jvm.Cond.code (am_y 202) (am_by 202) (am_ml 202) (am_rty 202) ∈ am_gw := List.mem_filter.mpr ⟨List.mem_of_getElem? (i := 855) rfl, rfl⟩
theorem am_wc_203 : Jvm.Cond.code (am_y 203) (am_by 203) (am_ml 203) (am_rty 203) ∈ am_gw := List.mem_filter.mpr ⟨List.mem_of_getElem? (i := 867) rfl, rfl⟩
theorem am_wc_204 : Jvm.Cond.code (am_y 204) (am_by 204) (am_ml 204) (am_rty 204) ∈ am_gw := List.mem_filter.mpr ⟨List.mem_of_getElem? (i := 863) rfl, rfl⟩
theorem am_wc_205 : Jvm.Cond.code (am_y 205) (am_by 205) (am_ml 205) (am_rty 205) ∈ am_gw := List.mem_filter.mpr ⟨List.mem_of_getElem? (i := 872) rfl, rfl⟩
theorem am_wc_206 : Jvm.Cond.code (am_y 206) (am_by 206) (am_ml 206) (am_rty 206) ∈ am_gw := List.mem_filter.mpr ⟨List.mem_of_getElem? (i := 859) rfl, rfl⟩
theorem am_wc_207 : Jvm.Cond.code (am_y 207) (am_by 207) (am_ml 207) (am_rty 207) ∈ am_gw := List.mem_filter.mpr ⟨List.mem_of_getElem? (i := 876) rfl, rfl⟩
theorem am_wc_208 : Jvm.Cond.code (am_y 208) (am_by 208) (am_ml 208) (am_rty 208) ∈ am_gw := List.mem_filter.mpr ⟨List.mem_of_getElem? (i := 880) rfl, rfl⟩
theorem am_wc_209 : Jvm.Cond.code (am_y 209) (am_by 209) (am_ml 209) (am_rty 209) ∈ am_gw := List.mem_filter.mpr ⟨List.mem_of_getElem? (i := 884) rfl, rfl⟩
theorem am_wc_210 : Jvm.Cond.code (am_y 210) (am_by 210) (am_ml 210) (am_rty 210) ∈ am_gw := List.mem_filter.mpr ⟨List.mem_of_getElem? (i := 888) rfl, rfl⟩
theorem am_wc_211 : Jvm.Cond.code (am_y 211) (am_by 211) (am_ml 211) (am_rty 211) ∈ am_gw := List.mem_filter.mpr ⟨List.mem_of_getElem? (i := 895) rfl, rfl⟩
theorem am_wc_212 : Jvm.Cond.code (am_y 212) (am_by 212) (am_ml 212) (am_rty 212) ∈ am_gw := List.mem_filter.mpr ⟨List.mem_of_getElem? (i := 891) rfl, rfl⟩
theorem am_wc_213 : Jvm.Cond.code (am_y 213) (am_by 213) (am_ml 213) (am_rty 213) ∈ am_gw := List.mem_filter.mpr ⟨List.mem_of_getElem? (i := 175) rfl, rfl⟩
theorem am_wc_214 : Jvm.Cond.code (am_y 214) (am_by 214) (am_ml 214) (am_rty 214) ∈ am_gw := List.mem_filter.mpr ⟨List.mem_of_getElem? (i := 925) rfl, rfl⟩
theorem am_wc_215 : Jvm.Cond.code (am_y 215) (am_by 215) (am_ml 215) (am_rty 215) ∈ am_gw := List.mem_filter.mpr ⟨List.mem_of_getElem? (i := 933) rfl, rfl⟩
theorem am_wc_216 : Jvm.Cond.code (am_y 216) (am_by 216) (am_ml 216) (am_rty 216) ∈ am_gw := List.mem_filter.mpr ⟨List.mem_of_getElem? (i := 490) rfl, rfl⟩
theorem am_wc_217 : Jvm.Cond.code (am_y 217) (am_by 217) (am_ml 217) (am_rty 217) ∈ am_gw := List.mem_filter.mpr ⟨List.mem_of_getElem? (i := 514) rfl, rfl⟩
theorem am_wc_218 : Jvm.Cond.code (am_y 218) (am_by 218) (am_ml 218) (am_rty 218) ∈ am_gw := List.mem_filter.mpr ⟨List.mem_of_getElem? (i := 789) rfl, rfl⟩
theorem am_wc_219 : Jvm.Cond.code (am_y 219) (am_by 219) (am_ml 219) (am_rty 219) ∈ am_gw := List.mem_filter.mpr ⟨List.mem_of_getElem? (i := 225) rfl, rfl⟩
theorem am_wc_220 : Jvm.Cond.code (am_y 220) (am_by 220) (am_ml 220) (am_rty 220) ∈ am_gw := List.mem_filter.mpr ⟨List.mem_of_getElem? (i := 724) rfl, rfl⟩
theorem am_wc_221 : Jvm.Cond.code (am_y 221) (am_by 221) (am_ml 221) (am_rty 221) ∈ am_gw := List.mem_filter.mpr ⟨List.mem_of_getElem? (i := 736) rfl, rfl⟩
theorem am_wc_222 : Jvm.Cond.code (am_y 222) (am_by 222) (am_ml 222) (am_rty 222) ∈ am_gw := List.mem_filter.mpr ⟨List.mem_of_getElem? (i := 794) rfl, rfl⟩
theorem am_wc_223 : Jvm.Cond.code (am_y 223) (am_by 223) (am_ml 223) (am_rty 223) ∈ am_gw := List.mem_filter.mpr ⟨List.mem_of_getElem? (i := 181) rfl, rfl⟩
theorem am_wc_224 : Jvm.Cond.code (am_y 224) (am_by 224) (am_ml 224) (am_rty 224) ∈ am_gw := List.mem_filter.mpr ⟨List.mem_of_getElem? (i := 929) rfl, rfl⟩
theorem am_wc_225 : Jvm.Cond.code (am_y 225) (am_by 225) (am_ml 225) (am_rty 225) ∈ am_gw := List.mem_filter.mpr ⟨List.mem_of_getElem? (i := 518) rfl, rfl⟩
theorem am_wc_226 : Jvm.Cond.code (am_y 226) (am_by 226) (am_ml 226) (am_rty 226) ∈ am_gw := List.mem_filter.mpr ⟨List.mem_of_getElem? (i := 477) rfl, rfl⟩
theorem am_wc_227 : Jvm.Cond.code (am_y 227) (am_by 227) (am_ml 227) (am_rty 227) ∈ am_gw := List.mem_filter.mpr ⟨List.mem_of_getElem? (i := 494) rfl, rfl⟩
theorem am_wc_228 : Jvm.Cond.code (am_y 228) (am_by 228) (am_ml 228) (am_rty 228) ∈ am_gw := List.mem_filter.mpr ⟨List.mem_of_getElem? (i := 578) rfl, rfl⟩
theorem am_wc_229 : Jvm.Cond.code (am_y 229) (am_by 229) (am_ml 229) (am_rty 229) ∈ am_gw := List.mem_filter.mpr ⟨List.mem_of_getElem? (i := 578) rfl, rfl⟩
theorem am_wc_230 : Jvm.Cond.code (am_y 230) (am_by 230) (am_ml 230) (am_rty 230) ∈ am_gw := List.mem_filter.mpr ⟨List.mem_of_getElem? (i := 578) rfl, rfl⟩
theorem am_wc_231 : Jvm.Cond.code (am_y 231) (am_by 231) (am_ml 231) (am_rty 231) ∈ am_gw := List.mem_filter.mpr ⟨List.mem_of_getElem? (i := 326) rfl, rfl⟩
theorem am_wc_232 : Jvm.Cond.code (am_y 232) (am_by 232) (am_ml 232) (am_rty 232) ∈ am_gw := List.mem_filter.mpr ⟨List.mem_of_getElem? (i := 599) rfl, rfl⟩
theorem am_wc_233 : Jvm.Cond.code (am_y 233) (am_by 233) (am_ml 233) (am_rty 233) ∈ am_gw := List.mem_filter.mpr ⟨List.mem_of_getElem? (i := 408) rfl, rfl⟩
theorem am_wc_234 : Jvm.Cond.code (am_y 234) (am_by 234) (am_ml 234) (am_rty 234) ∈ am_gw := List.mem_filter.mpr ⟨List.mem_of_getElem? (i := 605) rfl, rfl⟩
theorem am_wc_235 : Jvm.Cond.code (am_y 235) (am_by 235) (am_ml 235) (am_rty 235) ∈ am_gw := List.mem_filter.mpr ⟨List.mem_of_getElem? (i := 578) rfl, rfl⟩
theorem am_wc_236 : Jvm.Cond.code (am_y 236) (am_by 236) (am_ml 236) (am_rty 236) ∈ am_gw := List.mem_filter.mpr ⟨List.mem_of_getElem? (i := 578) rfl, rfl⟩
theorem am_wc_237 : Jvm.Cond.code (am_y 237) (am_by 237) (am_ml 237) (am_rty 237) ∈ am_gw := List.mem_filter.mpr ⟨List.mem_of_getElem? (i := 578) rfl, rfl⟩
theorem am_wc_238 : Jvm.Cond.code (am_y 238) (am_by 238) (am_ml 238) (am_rty 238) ∈ am_gw := List.mem_filter.mpr ⟨List.mem_of_getElem? (i := 799) rfl, rfl⟩
theorem am_wc_239 : Jvm.Cond.code (am_y 239) (am_by 239) (am_ml 239) (am_rty 239) ∈ am_gw := List.mem_filter.mpr ⟨List.mem_of_getElem? (i := 303) rfl, rfl⟩
theorem am_wc_240 : Jvm.Cond.code (am_y 240) (am_by 240) (am_ml 240) (am_rty 240) ∈ am_gw := List.mem_filter.mpr ⟨List.mem_of_getElem? (i := 412) rfl, rfl⟩
theorem am_wc_241 : Jvm.Cond.code (am_y 241) (am_by 241) (am_ml 241) (am_rty 241) ∈ am_gw := List.mem_filter.mpr ⟨List.mem_of_getElem? (i := 404) rfl, rfl⟩
theorem am_wc_242 : Jvm.Cond.code (am_y 242) (am_by 242) (am_ml 242) (am_rty 242) ∈ am_gw := List.mem_filter.mpr ⟨List.mem_of_getElem? (i := 625) rfl, rfl⟩
theorem am_wc_243 : Jvm.Cond.code (am_y 243) (am_by 243) (am_ml 243) (am_rty 243) ∈ am_gw := List.mem_filter.mpr ⟨List.mem_of_getElem? (i := 628) rfl, rfl⟩
theorem am_wc_244 : Jvm.Cond.code (am_y 244) (am_by 244) (am_ml 244) (am_rty 244) ∈ am_gw := List.mem_filter.mpr ⟨List.mem_of_getElem? (i := 111) rfl, rfl⟩
theorem am_wc_245 : Jvm.Cond.code (am_y 245) (am_by 245) (am_ml 245) (am_rty 245) ∈ am_gw := List.mem_filter.mpr ⟨List.mem_of_getElem? (i := 904) rfl, rfl⟩
theorem am_wc_246 : Jvm.Cond.code (am_y 246) (am_by 246) (am_ml 246) (am_rty 246) ∈ am_gw := List.mem_filter.mpr ⟨List.mem_of_getElem? (i := 440) rfl, rfl⟩
theorem am_wc_247 : Jvm.Cond.code (am_y 247) (am_by 247) (am_ml 247) (am_rty 247) ∈ am_gw := List.mem_filter.mpr ⟨List.mem_of_getElem? (i := 469) rfl, rfl⟩
theorem am_wc_248 : Jvm.Cond.code (am_y 248) (am_by 248) (am_ml 248) (am_rty 248) ∈ am_gw := List.mem_filter.mpr ⟨List.mem_of_getElem? (i := 781) rfl, rfl⟩
theorem am_wc_249 : Jvm.Cond.code (am_y 249) (am_by 249) (am_ml 249) (am_rty 249) ∈ am_gw := List.mem_filter.mpr ⟨List.mem_of_getElem? (i := 486) rfl, rfl⟩
theorem am_wc_250 : Jvm.Cond.code (am_y 250) (am_by 250) (am_ml 250) (am_rty 250) ∈ am_gw := List.mem_filter.mpr ⟨List.mem_of_getElem? (i := 770) rfl, rfl⟩
theorem am_wc_251 : Jvm.Cond.code (am_y 251) (am_by 251) (am_ml 251) (am_rty 251) ∈ am_gw := List.mem_filter.mpr ⟨List.mem_of_getElem? (i := 766) rfl, rfl⟩
theorem am_wc_252 : Jvm.Cond.code (am_y 252) (am_by 252) (am_ml 252) (am_rty 252) ∈ am_gw := List.mem_filter.mpr ⟨List.mem_of_getElem? (i := 482) rfl, rfl⟩
theorem am_wc_253 : Jvm.Cond.code (am_y 253) (am_by 253) (am_ml 253) (am_rty 253) ∈ am_gw := List.mem_filter.mpr ⟨List.mem_of_getElem? (i := 498) rfl, rfl⟩
theorem am_wc_254 : Jvm.Cond.code (am_y 254) (am_by 254) (am_ml 254) (am_rty 254) ∈ am_gw := List.mem_filter.mpr ⟨List.mem_of_getElem? (i := 556) rfl, rfl⟩
theorem am_wc_255 : Jvm.Cond.code (am_y 255) (am_by 255) (am_ml 255) (am_rty 255) ∈ am_gw := List.mem_filter.mpr ⟨List.mem_of_getElem? (i := 920) rfl, rfl⟩
theorem am_wc_256 : Jvm.Cond.code (am_y 256) (am_by 256) (am_ml 256) (am_rty 256) ∈ am_gw := List.mem_filter.mpr ⟨List.mem_of_getElem? (i := 916) rfl, rfl⟩
theorem am_wc_257 : Jvm.Cond.code (am_y 257) (am_by 257) (am_ml 257) (am_rty 257) ∈ am_gw := List.mem_filter.mpr ⟨List.mem_of_getElem? (i := 912) rfl, rfl⟩
theorem am_wc_258 : Jvm.Cond.code (am_y 258) (am_by 258) (am_ml 258) (am_rty 258) ∈ am_gw := List.mem_filter.mpr ⟨List.mem_of_getElem? (i := 908) rfl, rfl⟩
theorem am_wc_259 : Jvm.Cond.code (am_y 259) (am_by 259) (am_ml 259) (am_rty 259) ∈ am_gw := List.mem_filter.mpr ⟨List.mem_of_getElem? (i := 578) rfl, rfl⟩
theorem am_wc_260 : Jvm.Cond.code (am_y 260) (am_by 260) (am_ml 260) (am_rty 260) ∈ am_gw := List.mem_filter.mpr ⟨List.mem_of_getElem? (i := 655) rfl, rfl⟩
theorem am_wc_261 : Jvm.Cond.code (am_y 261) (am_by 261) (am_ml 261) (am_rty 261) ∈ am_gw := List.mem_filter.mpr ⟨List.mem_of_getElem? (i := 649) rfl, rfl⟩
theorem am_wc_262 : Jvm.Cond.code (am_y 262) (am_by 262) (am_ml 262) (am_rty 262) ∈ am_gw := List.mem_filter.mpr ⟨List.mem_of_getElem? (i := 663) rfl, rfl⟩
theorem am_wc_263 : Jvm.Cond.code (am_y 263) (am_by 263) (am_ml 263) (am_rty 263) ∈ am_gw := List.mem_filter.mpr ⟨List.mem_of_getElem? (i := 715) rfl, rfl⟩
theorem am_wc_265 : Jvm.Cond.code (am_y 265) (am_by 265) (am_ml 265) (am_rty 265) ∈ am_gw := List.mem_filter.mpr ⟨List.mem_of_getElem? (i := 443) rfl, rfl⟩
theorem am_wc_266 : Jvm.Cond.code (am_y 266) (am_by 266) (am_ml 266) (am_rty 266) ∈ am_gw := List.mem_filter.mpr ⟨List.mem_of_getElem? (i := 538) rfl, rfl⟩
theorem am_wc : ∀ m, m < 267 → m ≠ 264 → Jvm.Cond.code (am_y m) (am_by m) (am_ml m) (am_rty m) ∈ am_gw
  | 0, _, _ => am_wc_0
  | 1, _, _ => am_wc_1
  | 2, _, _ => am_wc_2
  | 3, _, _ => am_wc_3
  | 4, _, _ => am_wc_4
  | 5, _, _ => am_wc_5
  | 6, _, _ => am_wc_6
  | 7, _, _ => am_wc_7
  | 8, _, _ => am_wc_8
  | 9, _, _ => am_wc_9
  | 10, _, _ => am_wc_10
  | 11, _, _ => am_wc_11
  | 12, _, _ => am_wc_12
  | 13, _, _ => am_wc_13
  | 14, _, _ => am_wc_14
  | 15, _, _ => am_wc_15
  | 16, _, _ => am_wc_16
  | 17, _, _ => am_wc_17
  | 18, _, _ => am_wc_18
  | 19, _, _ => am_wc_19
  | 20, _, _ => am_wc_20
  | 21, _, _ => am_wc_21
  | 22, _, _ => am_wc_22
  | 23, _, _ => am_wc_23
  | 24, _, _ => am_wc_24
  | 25, _, _ => am_wc_25
  | 26, _, _ => am_wc_26
  | 27, _, _ => am_wc_27
  | 28, _, _ => am_wc_28
  | 29, _, _ => am_wc_29
  | 30, _, _ => am_wc_30
  | 31, _, _ => am_wc_31
  | 32, _, _ => am_wc_32
  | 33, _, _ => am_wc_33
  | 34, _, _ => am_wc_34
  | 35, _, _ => am_wc_35
  | 36, _, _ => am_wc_36
  | 37, _, _ => am_wc_37
  | 38, _, _ => am_wc_38
  | 39, _, _ => am_wc_39
  | 40, _, _ => am_wc_40
  | 41, _, _ => am_wc_41
  | 42, _, _ => am_wc_42
  | 43, _, _ => am_wc_43
  | 44, _, _ => am_wc_44
  | 45, _, _ => am_wc_45
  | 46, _, _ => am_wc_46
  | 47, _, _ => am_wc_47
  | 48, _, _ => am_wc_48
  | 49, _, _ => am_wc_49
  | 50, _, _ => am_wc_50
  | 51, _, _ => am_wc_51
  | 52, _, _ => am_wc_52
  | 53, _, _ => am_wc_53
  | 54, _, _ => am_wc_54
  | 55, _, _ => am_wc_55
  | 56, _, _ => am_wc_56
  | 57, _, _ => am_wc_57
  | 58, _, _ => am_wc_58
  | 59, _, _ => am_wc_59
  | 60, _, _ => am_wc_60
  | 61, _, _ => am_wc_61
  | 62, _, _ => am_wc_62
  | 63, _, _ => am_wc_63
  | 64, _, _ => am_wc_64
  | 65, _, _ => am_wc_65
  | 66, _, _ => am_wc_66
  | 67, _, _ => am_wc_67
  | 68, _, _ => am_wc_68
  | 69, _, _ => am_wc_69
  | 70, _, _ => am_wc_70
  | 71, _, _ => am_wc_71
  | 72, _, _ => am_wc_72
  | 73, _, _ => am_wc_73
  | 74, _, _ => am_wc_74
  | 75, _, _ => am_wc_75
  | 76, _, _ => am_wc_76
  | 77, _, _ => am_wc_77
  | 78, _, _ => am_wc_78
  | 79, _, _ => am_wc_79
  | 80, _, _ => am_wc_80
  | 81, _, _ => am_wc_81
  | 82, _, _ => am_wc_82
  | 83, _, _ => am_wc_83
  | 84, _, _ => am_wc_84
  | 85, _, _ => am_wc_85
  | 86, _, _ => am_wc_86
  | 87, _, _ => am_wc_87
  | 88, _, _ => am_wc_88
  | 89, _, _ => am_wc_89
  | 90, _, _ => am_wc_90
  | 91, _, _ => am_wc_91
  | 92, _, _ => am_wc_92
  | 93, _, _ => am_wc_93
  | 94, _, _ => am_wc_94
  | 95, _, _ => am_wc_95
  | 96, _, _ => am_wc_96
  | 97, _, _ => am_wc_97
  | 98, _, _ => am_wc_98
  | 99, _, _ => am_wc_99
  | 100, _, _ => am_wc_100
  | 101, _, _ => am_wc_101
  | 102, _, _ => am_wc_102
  | 103, _, _ => am_wc_103
  | 104, _, _ => am_wc_104
  | 105, _, _ => am_wc_105
  | 106, _, _ => am_wc_106
  | 107, _, _ => am_wc_107
  | 108, _, _ => am_wc_108
  | 109, _, _ => am_wc_109
  | 110, _, _ => am_wc_110
  | 111, _, _ => am_wc_111
  | 112, _, _ => am_wc_112
  | 113, _, _ => am_wc_113
  | 114, _, _ => am_wc_114
  | 115, _, _ => am_wc_115
  | 116, _, _ => am_wc_116
  | 117, _, _ => am_wc_117
  | 118, _, _ => am_wc_118
  | 119, _, _ => am_wc_119
  | 120, _, _ => am_wc_120
  | 121, _, _ => am_wc_121
  | 122, _, _ => am_wc_122
  | 123, _, _ => am_wc_123
  | 124, _, _ => am_wc_124
  | 125, _, _ => am_wc_125
  | 126, _, _ => am_wc_126
  | 127, _, _ => am_wc_127
  | 128, _, _ => am_wc_128
  | 129, _, _ => am_wc_129
  | 130, _, _ => am_wc_130
  | 131, _, _ => am_wc_131
  | 132, _, _ => am_wc_132
  | 133, _, _ => am_wc_133
  | 134, _, _ => am_wc_134
  | 135, _, _ => am_wc_135
  | 136, _, _ => am_wc_136
  | 137, _, _ => am_wc_137
  | 138, _, _ => am_wc_138
  | 139, _, _ => am_wc_139
  | 140, _, _ => am_wc_140
  | 141, _, _ => am_wc_141
  | 142, _, _ => am_wc_142
  | 143, _, _ => am_wc_143
  | 144, _, _ => am_wc_144
  | 145, _, _ => am_wc_145
  | 146, _, _ => am_wc_146
  | 147, _, _ => am_wc_147
  | 148, _, _ => am_wc_148
  | 149, _, _ => am_wc_149
  | 150, _, _ => am_wc_150
  | 151, _, _ => am_wc_151
  | 152, _, _ => am_wc_152
  | 153, _, _ => am_wc_153
  | 154, _, _ => am_wc_154
  | 155, _, _ => am_wc_155
  | 156, _, _ => am_wc_156
  | 157, _, _ => am_wc_157
  | 158, _, _ => am_wc_158
  | 159, _, _ => am_wc_159
  | 160, _, _ => am_wc_160
  | 161, _, _ => am_wc_161
  | 162, _, _ => am_wc_162
  | 163, _, _ => am_wc_163
  | 164, _, _ => am_wc_164
  | 165, _, _ => am_wc_165
  | 166, _, _ => am_wc_166
  | 167, _, _ => am_wc_167
  | 168, _, _ => am_wc_168
  | 169, _, _ => am_wc_169
  | 170, _, _ => am_wc_170
  | 171, _, _ => am_wc_171
  | 172, _, _ => am_wc_172
  | 173, _, _ => am_wc_173
  | 174, _, _ => am_wc_174
  | 175, _, _ => am_wc_175
  | 176, _, _ => am_wc_176
  | 177, _, _ => am_wc_177
  | 178, _, _ => am_wc_178
  | 179, _, _ => am_wc_179
  | 180, _, _ => am_wc_180
  | 181, _, _ => am_wc_181
  | 182, _, _ => am_wc_182
  | 183, _, _ => am_wc_183
  | 184, _, _ => am_wc_184
  | 185, _, _ => am_wc_185
  | 186, _, _ => am_wc_186
  | 187, _, _ => am_wc_187
  | 188, _, _ => am_wc_188
  | 189, _, _ => am_wc_189
  | 190, _, _ => am_wc_190
  | 191, _, _ => am_wc_191
  | 192, _, _ => am_wc_192
  | 193, _, _ => am_wc_193
  | 194, _, _ => am_wc_194
  | 195, _, _ => am_wc_195
  | 196, _, _ => am_wc_196
  | 197, _, _ => am_wc_197
  | 198, _, _ => am_wc_198
  | 199, _, _ => am_wc_199
  | 200, _, _ => am_wc_200
  | 201, _, _ => am_wc_201
  | 202, _, _ => am_wc_202
  | 203, _, _ => am_wc_203
  | 204, _, _ => am_wc_204
  | 205, _, _ => am_wc_205
  | 206, _, _ => am_wc_206
  | 207, _, _ => am_wc_207
  | 208, _, _ => am_wc_208
  | 209, _, _ => am_wc_209
  | 210, _, _ => am_wc_210
  | 211, _, _ => am_wc_211
  | 212, _, _ => am_wc_212
  | 213, _, _ => am_wc_213
  | 214, _, _ => am_wc_214
  | 215, _, _ => am_wc_215
  | 216, _, _ => am_wc_216
  | 217, _, _ => am_wc_217
  | 218, _, _ => am_wc_218
  | 219, _, _ => am_wc_219
  | 220, _, _ => am_wc_220
  | 221, _, _ => am_wc_221
  | 222, _, _ => am_wc_222
  | 223, _, _ => am_wc_223
  | 224, _, _ => am_wc_224
  | 225, _, _ => am_wc_225
  | 226, _, _ => am_wc_226
  | 227, _, _ => am_wc_227
  | 228, _, _ => am_wc_228
  | 229, _, _ => am_wc_229
  | 230, _, _ => am_wc_230
  | 231, _, _ => am_wc_231
  | 232, _, _ => am_wc_232
  | 233, _, _ => am_wc_233
  | 234, _, _ => am_wc_234
  | 235, _, _ => am_wc_235
  | 236, _, _ => am_wc_236
  | 237, _, _ => am_wc_237
  | 238, _, _ => am_wc_238
  | 239, _, _ => am_wc_239
  | 240, _, _ => am_wc_240
  | 241, _, _ => am_wc_241
  | 242, _, _ => am_wc_242
  | 243, _, _ => am_wc_243
  | 244, _, _ => am_wc_244
  | 245, _, _ => am_wc_245
  | 246, _, _ => am_wc_246
  | 247, _, _ => am_wc_247
  | 248, _, _ => am_wc_248
  | 249, _, _ => am_wc_249
  | 250, _, _ => am_wc_250
  | 251, _, _ => am_wc_251
  | 252, _, _ => am_wc_252
  | 253, _, _ => am_wc_253
  | 254, _, _ => am_wc_254
  | 255, _, _ => am_wc_255
  | 256, _, _ => am_wc_256
  | 257, _, _ => am_wc_257
  | 258, _, _ => am_wc_258
  | 259, _, _ => am_wc_259
  | 260, _, _ => am_wc_260
  | 261, _, _ => am_wc_261
  | 262, _, _ => am_wc_262
  | 263, _, _ => am_wc_263
  | 264, _, h => absurd rfl h
  | 265, _, _ => am_wc_265
  | 266, _, _ => am_wc_266
  | n + 267, h, _ => absurd h (by omega)
