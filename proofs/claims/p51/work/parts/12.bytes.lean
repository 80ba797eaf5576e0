/-! every method against its bytes -/
set_option maxRecDepth 100000
theorem am_okR {m n c : Nat} (h : ∀ j, j < c → (List.range' (40 * j) 40).all (am_chk1 m) = true) (hc : n + 1 ≤ 40 * c) (h2 : ∀ pc, n + 1 ≤ pc → am_code m pc = none) : am_okM m := by
  refine am_okI (n := n) (List.all_eq_true.mpr fun pc hp => ?_) h2
  have hp := List.mem_range.mp hp
  have h3 := List.all_eq_true.mp (h (pc / 40) (by omega)) pc (List.mem_range'.mpr ⟨pc % 40, Nat.mod_lt _ (by omega), by omega⟩)
  exact h3
theorem am_k0 : am_okM 0 := am_okI (n := 222) (by decide +kernel) (fun pc h => am_none h)
theorem am_k1 : am_okM 1 := am_okI (n := 8) (by decide +kernel) (fun pc h => am_none h)
theorem am_k2 : am_okM 2 := am_okI (n := 8) (by decide +kernel) (fun pc h => am_none h)
theorem am_k3 : am_okM 3 := am_okI (n := 42) (by decide +kernel) (fun pc h => am_none h)
theorem am_k4 : am_okM 4 := am_okI (n := 31) (by decide +kernel) (fun pc h => am_none h)
theorem am_k5 : am_okM 5 := am_okI (n := 8) (by decide +kernel) (fun pc h => am_none h)
theorem am_k6 : am_okM 6 := am_okI (n := 8) (by decide +kernel) (fun pc h => am_none h)
theorem am_k7 : am_okM 7 := am_okI (n := 12) (by decide +kernel) (fun pc h => am_none h)
theorem am_k8 : am_okM 8 := am_okI (n := 54) (by decide +kernel) (fun pc h => am_none h)
theorem am_k9 : am_okM 9 := am_okI (n := 33) (by decide +kernel) (fun pc h => am_none h)
theorem am_k10 : am_okM 10 := am_okI (n := 95) (by decide +kernel) (fun pc h => am_none h)
theorem am_k11 : am_okM 11 := am_okI (n := 8) (by decide +kernel) (fun pc h => am_none h)
theorem am_k12 : am_okM 12 := am_okI (n := 8) (by decide +kernel) (fun pc h => am_none h)
theorem am_k13 : am_okM 13 := am_okI (n := 8) (by decide +kernel) (fun pc h => am_none h)
theorem am_k14 : am_okM 14 := am_okI (n := 22) (by decide +kernel) (fun pc h => am_none h)
theorem am_k15 : am_okM 15 := am_okI (n := 31) (by decide +kernel) (fun pc h => am_none h)
theorem am_k16 : am_okM 16 := am_okI (n := 70) (by decide +kernel) (fun pc h => am_none h)
theorem am_k17 : am_okM 17 := am_okI (n := 8) (by decide +kernel) (fun pc h => am_none h)
theorem am_k18 : am_okM 18 := am_okI (n := 56) (by decide +kernel) (fun pc h => am_none h)
theorem am_k19 : am_okM 19 := am_okI (n := 91) (by decide +kernel) (fun pc h => am_none h)
theorem am_k20 : am_okM 20 := am_okI (n := 37) (by decide +kernel) (fun pc h => am_none h)
theorem am_k21 : am_okM 21 := am_okI (n := 27) (by decide +kernel) (fun pc h => am_none h)
theorem am_k22 : am_okM 22 := am_okI (n := 44) (by decide +kernel) (fun pc h => am_none h)
theorem am_k23 : am_okM 23 := am_okI (n := 8) (by decide +kernel) (fun pc h => am_none h)
theorem am_k24 : am_okM 24 := am_okI (n := 8) (by decide +kernel) (fun pc h => am_none h)
theorem am_k25 : am_okM 25 := am_okI (n := 8) (by decide +kernel) (fun pc h => am_none h)
theorem am_k26 : am_okM 26 := am_okI (n := 70) (by decide +kernel) (fun pc h => am_none h)
theorem am_k27 : am_okM 27 := am_okI (n := 51) (by decide +kernel) (fun pc h => am_none h)
theorem am_k28 : am_okM 28 := am_okI (n := 49) (by decide +kernel) (fun pc h => am_none h)
theorem am_k29 : am_okM 29 := am_okI (n := 41) (by decide +kernel) (fun pc h => am_none h)
theorem am_k30 : am_okM 30 := am_okI (n := 73) (by decide +kernel) (fun pc h => am_none h)
theorem am_k31 : am_okM 31 := am_okI (n := 48) (by decide +kernel) (fun pc h => am_none h)
theorem am_k32 : am_okM 32 := am_okI (n := 55) (by decide +kernel) (fun pc h => am_none h)
theorem am_k33 : am_okM 33 := am_okI (n := 98) (by decide +kernel) (fun pc h => am_none h)
theorem am_k34 : am_okM 34 := am_okI (n := 8) (by decide +kernel) (fun pc h => am_none h)
theorem am_k35 : am_okM 35 := am_okI (n := 49) (by decide +kernel) (fun pc h => am_none h)
theorem am_k36 : am_okM 36 := am_okI (n := 49) (by decide +kernel) (fun pc h => am_none h)
theorem am_k37 : am_okM 37 := am_okI (n := 36) (by decide +kernel) (fun pc h => am_none h)
theorem am_k38 : am_okM 38 := am_okI (n := 85) (by decide +kernel) (fun pc h => am_none h)
theorem am_k39 : am_okM 39 := am_okI (n := 115) (by decide +kernel) (fun pc h => am_none h)
theorem am_k40 : am_okM 40 := am_okI (n := 8) (by decide +kernel) (fun pc h => am_none h)
theorem am_k41 : am_okM 41 := am_okI (n := 8) (by decide +kernel) (fun pc h => am_none h)
theorem am_k42 : am_okM 42 := am_okI (n := 7) (by decide +kernel) (fun pc h => am_none h)
theorem am_k43 : am_okM 43 := am_okI (n := 7) (by decide +kernel) (fun pc h => am_none h)
theorem am_k44 : am_okM 44 := am_okI (n := 8) (by decide +kernel) (fun pc h => am_none h)
theorem am_k45 : am_okM 45 := am_okI (n := 133) (by decide +kernel) (fun pc h => am_none h)
theorem am_k46 : am_okM 46 := am_okI (n := 8) (by decide +kernel) (fun pc h => am_none h)
theorem am_k47 : am_okM 47 := am_okI (n := 8) (by decide +kernel) (fun pc h => am_none h)
theorem am_k48 : am_okM 48 := am_okI (n := 247) (by decide +kernel) (fun pc h => am_none h)
theorem am_k49 : am_okM 49 := am_okI (n := 8) (by decide +kernel) (fun pc h => am_none h)
theorem am_k50 : am_okM 50 := am_okI (n := 24) (by decide +kernel) (fun pc h => am_none h)
theorem am_k51 : am_okM 51 := am_okI (n := 13) (by decide +kernel) (fun pc h => am_none h)
theorem am_k52 : am_okM 52 := am_okI (n := 36) (by decide +kernel) (fun pc h => am_none h)
theorem am_k53 : am_okM 53 := am_okI (n := 17) (by decide +kernel) (fun pc h => am_none h)
theorem am_k54 : am_okM 54 := am_okI (n := 34) (by decide +kernel) (fun pc h => am_none h)
theorem am_k55 : am_okM 55 := am_okI (n := 46) (by decide +kernel) (fun pc h => am_none h)
theorem am_k56 : am_okM 56 := am_okI (n := 25) (by decide +kernel) (fun pc h => am_none h)
theorem am_k57 : am_okM 57 := am_okI (n := 40) (by decide +kernel) (fun pc h => am_none h)
theorem am_k58 : am_okM 58 := am_okI (n := 20) (by decide +kernel) (fun pc h => am_none h)
theorem am_k59 : am_okM 59 := am_okI (n := 20) (by decide +kernel) (fun pc h => am_none h)
theorem am_k60 : am_okM 60 := am_okI (n := 19) (by decide +kernel) (fun pc h => am_none h)
theorem am_k61 : am_okM 61 := am_okI (n := 94) (by decide +kernel) (fun pc h => am_none h)
theorem am_k62 : am_okM 62 := am_okI (n := 23) (by decide +kernel) (fun pc h => am_none h)
theorem am_k63 : am_okM 63 := am_okI (n := 27) (by decide +kernel) (fun pc h => am_none h)
theorem am_k64 : am_okM 64 := am_okI (n := 8) (by decide +kernel) (fun pc h => am_none h)
theorem am_k65 : am_okM 65 := am_okI (n := 8) (by decide +kernel) (fun pc h => am_none h)
theorem am_k66 : am_okM 66 := am_okI (n := 8) (by decide +kernel) (fun pc h => am_none h)
theorem am_k67 : am_okM 67 := am_okI (n := 8) (by decide +kernel) (fun pc h => am_none h)
theorem am_k68 : am_okM 68 := am_okI (n := 22) (by decide +kernel) (fun pc h => am_none h)
theorem am_k69 : am_okM 69 := am_okI (n := 9) (by decide +kernel) (fun pc h => am_none h)
theorem am_k70 : am_okM 70 := am_okI (n := 16) (by decide +kernel) (fun pc h => am_none h)
theorem am_k71 : am_okM 71 := am_okI (n := 13) (by decide +kernel) (fun pc h => am_none h)
theorem am_k72 : am_okM 72 := am_okI (n := 33) (by decide +kernel) (fun pc h => am_none h)
theorem am_k73 : am_okM 73 := am_okI (n := 12) (by decide +kernel) (fun pc h => am_none h)
theorem am_k74 : am_okM 74 := am_okI (n := 13) (by decide +kernel) (fun pc h => am_none h)
theorem am_k75 : am_okM 75 := am_okI (n := 132) (by decide +kernel) (fun pc h => am_none h)
theorem am_k76 : am_okM 76 := am_okI (n := 226) (by decide +kernel) (fun pc h => am_none h)
theorem am_k77 : am_okM 77 := am_okI (n := 119) (by decide +kernel) (fun pc h => am_none h)
theorem am_k78 : am_okM 78 := am_okI (n := 409) (by decide +kernel) (fun pc h => am_none h)
theorem am_k79 : am_okM 79 := am_okI (n := 8) (by decide +kernel) (fun pc h => am_none h)
theorem am_k80 : am_okM 80 := am_okI (n := 8) (by decide +kernel) (fun pc h => am_none h)
theorem am_k81 : am_okM 81 := am_okI (n := 8) (by decide +kernel) (fun pc h => am_none h)
theorem am_k82 : am_okM 82 := am_okI (n := 8) (by decide +kernel) (fun pc h => am_none h)
theorem am_k83 : am_okM 83 := am_okI (n := 8) (by decide +kernel) (fun pc h => am_none h)
theorem am_k84 : am_okM 84 := am_okI (n := 8) (by decide +kernel) (fun pc h => am_none h)
theorem am_k85 : am_okM 85 := am_okI (n := 8) (by decide +kernel) (fun pc h => am_none h)
theorem am_k86 : am_okM 86 := am_okI (n := 8) (by decide +kernel) (fun pc h => am_none h)
theorem am_k87 : am_okM 87 := am_okI (n := 8) (by decide +kernel) (fun pc h => am_none h)
theorem am_k88 : am_okM 88 := am_okI (n := 8) (by decide +kernel) (fun pc h => am_none h)
theorem am_k89 : am_okM 89 := am_okI (n := 8) (by decide +kernel) (fun pc h => am_none h)
theorem am_k90 : am_okM 90 := am_okI (n := 8) (by decide +kernel) (fun pc h => am_none h)
theorem am_k91 : am_okM 91 := am_okI (n := 8) (by decide +kernel) (fun pc h => am_none h)
theorem am_k92 : am_okM 92 := am_okI (n := 8) (by decide +kernel) (fun pc h => am_none h)
theorem am_k93 : am_okM 93 := am_okI (n := 8) (by decide +kernel) (fun pc h => am_none h)
theorem am_k94 : am_okM 94 := am_okI (n := 8) (by decide +kernel) (fun pc h => am_none h)
theorem am_k95 : am_okM 95 := am_okI (n := 8) (by decide +kernel) (fun pc h => am_none h)
theorem am_k96 : am_okM 96 := am_okI (n := 8) (by decide +kernel) (fun pc h => am_none h)
theorem am_k97 : am_okM 97 := am_okI (n := 8) (by decide +kernel) (fun pc h => am_none h)
theorem am_k98 : am_okM 98 := am_okI (n := 8) (by decide +kernel) (fun pc h => am_none h)
theorem am_k99 : am_okM 99 := am_okI (n := 8) (by decide +kernel) (fun pc h => am_none h)
theorem am_k100 : am_okM 100 := am_okI (n := 8) (by decide +kernel) (fun pc h => am_none h)
theorem am_k101 : am_okM 101 := am_okI (n := 8) (by decide +kernel) (fun pc h => am_none h)
theorem am_k102 : am_okM 102 := am_okI (n := 8) (by decide +kernel) (fun pc h => am_none h)
theorem am_k103 : am_okM 103 := am_okI (n := 8) (by decide +kernel) (fun pc h => am_none h)
theorem am_k104 : am_okM 104 := am_okI (n := 8) (by decide +kernel) (fun pc h => am_none h)
theorem am_k105 : am_okM 105 := am_okI (n := 8) (by decide +kernel) (fun pc h => am_none h)
theorem am_k106 : am_okM 106 := am_okI (n := 8) (by decide +kernel) (fun pc h => am_none h)
theorem am_k107 : am_okM 107 := am_okI (n := 8) (by decide +kernel) (fun pc h => am_none h)
theorem am_k108 : am_okM 108 := am_okI (n := 8) (by decide +kernel) (fun pc h => am_none h)
theorem am_k109 : am_okM 109 := am_okI (n := 8) (by decide +kernel) (fun pc h => am_none h)
theorem am_k110 : am_okM 110 := am_okI (n := 8) (by decide +kernel) (fun pc h => am_none h)
theorem am_k111 : am_okM 111 := am_okI (n := 8) (by decide +kernel) (fun pc h => am_none h)
theorem am_k112 : am_okM 112 := am_okI (n := 8) (by decide +kernel) (fun pc h => am_none h)
theorem am_k113 : am_okM 113 := am_okI (n := 8) (by decide +kernel) (fun pc h => am_none h)
theorem am_k114 : am_okM 114 := am_okI (n := 8) (by decide +kernel) (fun pc h => am_none h)
theorem am_k115 : am_okM 115 := am_okI (n := 8) (by decide +kernel) (fun pc h => am_none h)
theorem am_k116 : am_okM 116 := am_okI (n := 8) (by decide +kernel) (fun pc h => am_none h)
theorem am_k117 : am_okM 117 := am_okI (n := 8) (by decide +kernel) (fun pc h => am_none h)
theorem am_k118 : am_okM 118 := am_okI (n := 8) (by decide +kernel) (fun pc h => am_none h)
theorem am_k119 : am_okM 119 := am_okI (n := 8) (by decide +kernel) (fun pc h => am_none h)
theorem am_k120 : am_okM 120 := am_okI (n := 8) (by decide +kernel) (fun pc h => am_none h)
theorem am_k121 : am_okM 121 := am_okI (n := 8) (by decide +kernel) (fun pc h => am_none h)
theorem am_k122 : am_okM 122 := am_okI (n := 8) (by decide +kernel) (fun pc h => am_none h)
theorem am_k123 : am_okM 123 := am_okI (n := 8) (by decide +kernel) (fun pc h => am_none h)
theorem am_k124 : am_okM 124 := am_okI (n := 8) (by decide +kernel) (fun pc h => am_none h)
theorem am_k125 : am_okM 125 := am_okI (n := 8) (by decide +kernel) (fun pc h => am_none h)
theorem am_k126 : am_okM 126 := am_okI (n := 8) (by decide +kernel) (fun pc h => am_none h)
theorem am_k127 : am_okM 127 := am_okI (n := 8) (by decide +kernel) (fun pc h => am_none h)
theorem am_k128 : am_okM 128 := am_okI (n := 8) (by decide +kernel) (fun pc h => am_none h)
theorem am_k129 : am_okM 129 := am_okI (n := 8) (by decide +kernel) (fun pc h => am_none h)
theorem am_k130 : am_okM 130 := am_okI (n := 8) (by decide +kernel) (fun pc h => am_none h)
theorem am_k131 : am_okM 131 := am_okI (n := 8) (by decide +kernel) (fun pc h => am_none h)
theorem am_k132 : am_okM 132 := am_okI (n := 8) (by decide +kernel) (fun pc h => am_none h)
theorem am_k133 : am_okM 133 := am_okI (n := 8) (by decide +kernel) (fun pc h => am_none h)
theorem am_k134 : am_okM 134 := am_okI (n := 8) (by decide +kernel) (fun pc h => am_none h)
theorem am_k135 : am_okM 135 := am_okI (n := 8) (by decide +kernel) (fun pc h => am_none h)
theorem am_k136 : am_okM 136 := am_okI (n := 8) (by decide +kernel) (fun pc h => am_none h)
theorem am_k137 : am_okM 137 := am_okI (n := 8) (by decide +kernel) (fun pc h => am_none h)
theorem am_k138 : am_okM 138 := am_okI (n := 8) (by decide +kernel) (fun pc h => am_none h)
theorem am_k139 : am_okM 139 := am_okI (n := 8) (by decide +kernel) (fun pc h => am_none h)
theorem am_k140 : am_okM 140 := am_okI (n := 8) (by decide +kernel) (fun pc h => am_none h)
theorem am_k141 : am_okM 141 := am_okI (n := 8) (by decide +kernel) (fun pc h => am_none h)
theorem am_k142 : am_okM 142 := am_okI (n := 8) (by decide +kernel) (fun pc h => am_none h)
theorem am_k143 : am_okM 143 := am_okI (n := 8) (by decide +kernel) (fun pc h => am_none h)
theorem am_k144 : am_okM 144 := am_okI (n := 8) (by decide +kernel) (fun pc h => am_none h)
theorem am_k145 : am_okM 145 := am_okI (n := 8) (by decide +kernel) (fun pc h => am_none h)
theorem am_k146 : am_okM 146 := am_okI (n := 8) (by decide +kernel) (fun pc h => am_none h)
theorem am_k147 : am_okM 147 := am_okI (n := 8) (by decide +kernel) (fun pc h => am_none h)
theorem am_k148 : am_okM 148 := am_okI (n := 8) (by decide +kernel) (fun pc h => am_none h)
theorem am_k149 : am_okM 149 := am_okI (n := 8) (by decide +kernel) (fun pc h => am_none h)
theorem am_k150 : am_okM 150 := am_okI (n := 8) (by decide +kernel) (fun pc h => am_none h)
theorem am_k151 : am_okM 151 := am_okI (n := 8) (by decide +kernel) (fun pc h => am_none h)
theorem am_k152 : am_okM 152 := am_okI (n := 8) (by decide +kernel) (fun pc h => am_none h)
theorem am_k153 : am_okM 153 := am_okI (n := 8) (by decide +kernel) (fun pc h => am_none h)
theorem am_k154 : am_okM 154 := am_okI (n := 8) (by decide +kernel) (fun pc h => am_none h)
theorem am_k155 : am_okM 155 := am_okI (n := 8) (by decide +kernel) (fun pc h => am_none h)
theorem am_k156 : am_okM 156 := am_okI (n := 8) (by decide +kernel) (fun pc h => am_none h)
theorem am_k157 : am_okM 157 := am_okI (n := 8) (by decide +kernel) (fun pc h => am_none h)
theorem am_k158 : am_okM 158 := am_okI (n := 8) (by decide +kernel) (fun pc h => am_none h)
theorem am_k159 : am_okM 159 := am_okI (n := 8) (by decide +kernel) (fun pc h => am_none h)
theorem am_k160 : am_okM 160 := am_okI (n := 8) (by decide +kernel) (fun pc h => am_none h)
theorem am_k161 : am_okM 161 := am_okI (n := 8) (by decide +kernel) (fun pc h => am_none h)
theorem am_k162 : am_okM 162 := am_okI (n := 8) (by decide +kernel) (fun pc h => am_none h)
theorem am_k163 : am_okM 163 := am_okI (n := 8) (by decide +kernel) (fun pc h => am_none h)
theorem am_k164 : am_okM 164 := am_okI (n := 8) (by decide +kernel) (fun pc h => am_none h)
theorem am_k165 : am_okM 165 := am_okI (n := 8) (by decide +kernel) (fun pc h => am_none h)
theorem am_k166 : am_okM 166 := am_okI (n := 13) (by decide +kernel) (fun pc h => am_none h)
theorem am_k167 : am_okM 167 := am_okI (n := 8) (by decide +kernel) (fun pc h => am_none h)
theorem am_k168 : am_okM 168 := am_okI (n := 8) (by decide +kernel) (fun pc h => am_none h)
theorem am_k169 : am_okM 169 := am_okI (n := 8) (by decide +kernel) (fun pc h => am_none h)
theorem am_k170 : am_okM 170 := am_okI (n := 8) (by decide +kernel) (fun pc h => am_none h)
theorem am_k171 : am_okM 171 := am_okI (n := 12) (by decide +kernel) (fun pc h => am_none h)
theorem am_k172 : am_okM 172 := am_okI (n := 94) (by decide +kernel) (fun pc h => am_none h)
theorem am_k173 : am_okM 173 := am_okI (n := 9) (by decide +kernel) (fun pc h => am_none h)
theorem am_k174 : am_okM 174 := am_okI (n := 77) (by decide +kernel) (fun pc h => am_none h)
theorem am_k175 : am_okM 175 := am_okI (n := 12) (by decide +kernel) (fun pc h => am_none h)
theorem am_k176 : am_okM 176 := am_okI (n := 13) (by decide +kernel) (fun pc h => am_none h)
theorem am_k177 : am_okM 177 := am_okI (n := 11) (by decide +kernel) (fun pc h => am_none h)
theorem am_k178 : am_okM 178 := am_okI (n := 8) (by decide +kernel) (fun pc h => am_none h)
theorem am_k179 : am_okM 179 := am_okI (n := 51) (by decide +kernel) (fun pc h => am_none h)
theorem am_k180 : am_okM 180 := am_okI (n := 94) (by decide +kernel) (fun pc h => am_none h)
theorem am_k181 : am_okM 181 := am_okI (n := 151) (by decide +kernel) (fun pc h => am_none h)
theorem am_k182 : am_okM 182 := am_okI (n := 84) (by decide +kernel) (fun pc h => am_none h)
theorem am_k183 : am_okM 183 := am_okI (n := 40) (by decide +kernel) (fun pc h => am_none h)
theorem am_k184 : am_okM 184 := am_okI (n := 55) (by decide +kernel) (fun pc h => am_none h)
theorem am_k185 : am_okM 185 := am_okI (n := 153) (by decide +kernel) (fun pc h => am_none h)
theorem am_k186 : am_okM 186 := am_okI (n := 40) (by decide +kernel) (fun pc h => am_none h)
theorem am_k187 : am_okM 187 := am_okI (n := 108) (by decide +kernel) (fun pc h => am_none h)
theorem am_k188 : am_okM 188 := am_okI (n := 46) (by decide +kernel) (fun pc h => am_none h)
theorem am_k189 : am_okM 189 := am_okI (n := 11) (by decide +kernel) (fun pc h => am_none h)
theorem am_k190 : am_okM 190 := am_okI (n := 91) (by decide +kernel) (fun pc h => am_none h)
theorem am_k191 : am_okM 191 := am_okI (n := 8) (by decide +kernel) (fun pc h => am_none h)
theorem am_k192 : am_okM 192 := am_okI (n := 15) (by decide +kernel) (fun pc h => am_none h)
theorem am_k193 : am_okM 193 := am_okI (n := 89) (by decide +kernel) (fun pc h => am_none h)
theorem am_k194 : am_okM 194 := am_okI (n := 95) (by decide +kernel) (fun pc h => am_none h)
theorem am_k195 : am_okM 195 := am_okI (n := 42) (by decide +kernel) (fun pc h => am_none h)
theorem am_k196 : am_okM 196 := am_okI (n := 47) (by decide +kernel) (fun pc h => am_none h)
theorem am_k197 : am_okM 197 := am_okI (n := 53) (by decide +kernel) (fun pc h => am_none h)
theorem am_k198 : am_okM 198 := am_okI (n := 77) (by decide +kernel) (fun pc h => am_none h)
theorem am_k199 : am_okM 199 := am_okI (n := 8) (by decide +kernel) (fun pc h => am_none h)
theorem am_k200 : am_okM 200 := am_okI (n := 8) (by decide +kernel) (fun pc h => am_none h)
theorem am_k201 : am_okM 201 := am_okI (n := 28) (by decide +kernel) (fun pc h => am_none h)
theorem am_k202 : am_okM 202 := am_okI (n := 50) (by decide +kernel) (fun pc h => am_none h)
theorem am_k203 : am_okM 203 := am_okI (n := 24) (by decide +kernel) (fun pc h => am_none h)
theorem am_k204 : am_okM 204 := am_okI (n := 33) (by decide +kernel) (fun pc h => am_none h)
theorem am_k205 : am_okM 205 := am_okI (n := 31) (by decide +kernel) (fun pc h => am_none h)
theorem am_k206 : am_okM 206 := am_okI (n := 67) (by decide +kernel) (fun pc h => am_none h)
theorem am_k207 : am_okM 207 := am_okI (n := 60) (by decide +kernel) (fun pc h => am_none h)
theorem am_k208 : am_okM 208 := am_okI (n := 71) (by decide +kernel) (fun pc h => am_none h)
theorem am_k209 : am_okM 209 := am_okI (n := 76) (by decide +kernel) (fun pc h => am_none h)
theorem am_k210 : am_okM 210 := am_okI (n := 124) (by decide +kernel) (fun pc h => am_none h)
theorem am_k211 : am_okM 211 := am_okI (n := 65) (by decide +kernel) (fun pc h => am_none h)
theorem am_k212 : am_okM 212 := am_okI (n := 85) (by decide +kernel) (fun pc h => am_none h)
theorem am_k213 : am_okM 213 := am_okI (n := 35) (by decide +kernel) (fun pc h => am_none h)
theorem am_k214 : am_okM 214 := am_okI (n := 16) (by decide +kernel) (fun pc h => am_none h)
theorem am_k215 : am_okM 215 := am_okI (n := 21) (by decide +kernel) (fun pc h => am_none h)
theorem am_k216 : am_okM 216 := am_okI (n := 47) (by decide +kernel) (fun pc h => am_none h)
theorem am_k217 : am_okM 217 := am_okI (n := 56) (by decide +kernel) (fun pc h => am_none h)
theorem am_k218 : am_okM 218 := am_okI (n := 111) (by decide +kernel) (fun pc h => am_none h)
theorem am_k219 : am_okM 219 := am_okI (n := 20) (by decide +kernel) (fun pc h => am_none h)
theorem am_k220 : am_okM 220 := am_okI (n := 30) (by decide +kernel) (fun pc h => am_none h)
theorem am_k221 : am_okM 221 := am_okI (n := 38) (by decide +kernel) (fun pc h => am_none h)
theorem am_k222 : am_okM 222 := am_okI (n := 50) (by decide +kernel) (fun pc h => am_none h)
theorem am_k223 : am_okM 223 := am_okI (n := 10) (by decide +kernel) (fun pc h => am_none h)
theorem am_k224 : am_okM 224 := am_okI (n := 21) (by decide +kernel) (fun pc h => am_none h)
theorem am_k225 : am_okM 225 := am_okI (n := 32) (by decide +kernel) (fun pc h => am_none h)
theorem am_k226 : am_okM 226 := am_okI (n := 136) (by decide +kernel) (fun pc h => am_none h)
theorem am_k227 : am_okM 227 := am_okI (n := 90) (by decide +kernel) (fun pc h => am_none h)
theorem am_k228 : am_okM 228 := am_okI (n := 8) (by decide +kernel) (fun pc h => am_none h)
theorem am_k229 : am_okM 229 := am_okI (n := 8) (by decide +kernel) (fun pc h => am_none h)
theorem am_k230 : am_okM 230 := am_okI (n := 8) (by decide +kernel) (fun pc h => am_none h)
theorem am_k231 : am_okM 231 := am_okI (n := 20) (by decide +kernel) (fun pc h => am_none h)
theorem am_k232 : am_okM 232 := am_okI (n := 21) (by decide +kernel) (fun pc h => am_none h)
theorem am_k233 : am_okM 233 := am_okI (n := 33) (by decide +kernel) (fun pc h => am_none h)
theorem am_k234 : am_okM 234 := am_okI (n := 28) (by decide +kernel) (fun pc h => am_none h)
theorem am_k235 : am_okM 235 := am_okI (n := 8) (by decide +kernel) (fun pc h => am_none h)
theorem am_k236 : am_okM 236 := am_okI (n := 8) (by decide +kernel) (fun pc h => am_none h)
theorem am_k237 : am_okM 237 := am_okI (n := 8) (by decide +kernel) (fun pc h => am_none h)
theorem am_k238 : am_okM 238 := am_okI (n := 39) (by decide +kernel) (fun pc h => am_none h)
theorem am_k239 : am_okM 239 := am_okI (n := 17) (by decide +kernel) (fun pc h => am_none h)
theorem am_k240 : am_okM 240 := am_okI (n := 6) (by decide +kernel) (fun pc h => am_none h)
theorem am_k241 : am_okM 241 := am_okI (n := 20) (by decide +kernel) (fun pc h => am_none h)
theorem am_k242 : am_okM 242 := am_okI (n := 30) (by decide +kernel) (fun pc h => am_none h)
theorem am_k243 : am_okM 243 := am_okI (n := 35) (by decide +kernel) (fun pc h => am_none h)
theorem am_k244 : am_okM 244 := am_okI (n := 36) (by decide +kernel) (fun pc h => am_none h)
theorem am_k245 : am_okM 245 := am_okI (n := 186) (by decide +kernel) (fun pc h => am_none h)
theorem am_k246 : am_okM 246 := am_okI (n := 8) (by decide +kernel) (fun pc h => am_none h)
theorem am_k247 : am_okM 247 := am_okI (n := 11) (by decide +kernel) (fun pc h => am_none h)
theorem am_k248 : am_okM 248 := am_okI (n := 26) (by decide +kernel) (fun pc h => am_none h)
theorem am_k249 : am_okM 249 := am_okI (n := 33) (by decide +kernel) (fun pc h => am_none h)
theorem am_k250 : am_okM 250 := am_okI (n := 78) (by decide +kernel) (fun pc h => am_none h)
theorem am_k251 : am_okM 251 := am_okI (n := 36) (by decide +kernel) (fun pc h => am_none h)
theorem am_k252 : am_okM 252 := am_okI (n := 83) (by decide +kernel) (fun pc h => am_none h)
theorem am_k253 : am_okM 253 := am_okI (n := 49) (by decide +kernel) (fun pc h => am_none h)
theorem am_k254 : am_okM 254 := am_okI (n := 42) (by decide +kernel) (fun pc h => am_none h)
theorem am_k255 : am_okM 255 := am_okI (n := 68) (by decide +kernel) (fun pc h => am_none h)
theorem am_k256 : am_okM 256 := am_okI (n := 26) (by decide +kernel) (fun pc h => am_none h)
theorem am_k257 : am_okM 257 := am_okI (n := 61) (by decide +kernel) (fun pc h => am_none h)
theorem am_k258 : am_okM 258 := am_okI (n := 54) (by decide +kernel) (fun pc h => am_none h)
theorem am_k259 : am_okM 259 := am_okI (n := 8) (by decide +kernel) (fun pc h => am_none h)
theorem am_k260 : am_okM 260 := am_okI (n := 55) (by decide +kernel) (fun pc h => am_none h)
theorem am_k261 : am_okM 261 := am_okI (n := 55) (by decide +kernel) (fun pc h => am_none h)
theorem am_k262 : am_okM 262 := am_okI (n := 84) (by decide +kernel) (fun pc h => am_none h)
theorem am_k263 : am_okM 263 := am_okI (n := 40) (by decide +kernel) (fun pc h => am_none h)
theorem am_k264_0 : (List.range' (40 * 0) 40).all (am_chk1 264) = true := by decide +kernel
theorem am_k264_1 : (List.range' (40 * 1) 40).all (am_chk1 264) = true := by decide +kernel
theorem am_k264_2 : (List.range' (40 * 2) 40).all (am_chk1 264) = true := by decide +kernel
theorem am_k264_3 : (List.range' (40 * 3) 40).all (am_chk1 264) = true := by decide +kernel
theorem am_k264_4 : (List.range' (40 * 4) 40).all (am_chk1 264) = true := by decide +kernel
theorem am_k264_5 : (List.range' (40 * 5) 40).all (am_chk1 264) = true := by decide +kernel
theorem am_k264_6 : (List.range' (40 * 6) 40).all (am_chk1 264) = true := by decide +kernel
theorem am_k264_7 : (List.range' (40 * 7) 40).all (am_chk1 264) = true := by decide +kernel
theorem am_k264_8 : (List.range' (40 * 8) 40).all (am_chk1 264) = true := by decide +kernel
theorem am_k264_9 : (List.range' (40 * 9) 40).all (am_chk1 264) = true := by decide +kernel
theorem am_k264_10 : (List.range' (40 * 10) 40).all (am_chk1 264) = true := by decide +kernel
theorem am_k264_11 : (List.range' (40 * 11) 40).all (am_chk1 264) = true := by decide +kernel
theorem am_k264_12 : (List.range' (40 * 12) 40).all (am_chk1 264) = true := by decide +kernel
theorem am_k264_13 : (List.range' (40 * 13) 40).all (am_chk1 264) = true := by decide +kernel
theorem am_k264_14 : (List.range' (40 * 14) 40).all (am_chk1 264) = true := by decide +kernel
theorem am_k264_15 : (List.range' (40 * 15) 40).all (am_chk1 264) = true := by decide +kernel
theorem am_k264_16 : (List.range' (40 * 16) 40).all (am_chk1 264) = true := by decide +kernel
theorem am_k264_17 : (List.range' (40 * 17) 40).all (am_chk1 264) = true := by decide +kernel
theorem am_k264_18 : (List.range' (40 * 18) 40).all (am_chk1 264) = true := by decide +kernel
theorem am_k264_19 : (List.range' (40 * 19) 40).all (am_chk1 264) = true := by decide +kernel
theorem am_k264_20 : (List.range' (40 * 20) 40).all (am_chk1 264) = true := by decide +kernel
theorem am_k264_21 : (List.range' (40 * 21) 40).all (am_chk1 264) = true := by decide +kernel
theorem am_k264_22 : (List.range' (40 * 22) 40).all (am_chk1 264) = true := by decide +kernel
theorem am_k264_23 : (List.range' (40 * 23) 40).all (am_chk1 264) = true := by decide +kernel
theorem am_k264_24 : (List.range' (40 * 24) 40).all (am_chk1 264) = true := by decide +kernel
theorem am_k264_25 : (List.range' (40 * 25) 40).all (am_chk1 264) = true := by decide +kernel
theorem am_k264_26 : (List.range' (40 * 26) 40).all (am_chk1 264) = true := by decide +kernel
theorem am_k264_27 : (List.range' (40 * 27) 40).all (am_chk1 264) = true := by decide +kernel
theorem am_k264_28 : (List.range' (40 * 28) 40).all (am_chk1 264) = true := by decide +kernel
theorem am_k264_29 : (List.range' (40 * 29) 40).all (am_chk1 264) = true := by decide +kernel
theorem am_k264_30 : (List.range' (40 * 30) 40).all (am_chk1 264) = true := by decide +kernel
theorem am_k264_31 : (List.range' (40 * 31) 40).all (am_chk1 264) = true := by decide +kernel
theorem am_k264_32 : (List.range' (40 * 32) 40).all (am_chk1 264) = true := by decide +kernel
theorem am_k264_33 : (List.range' (40 * 33) 40).all (am_chk1 264) = true := by decide +kernel
theorem am_k264_34 : (List.range' (40 * 34) 40).all (am_chk1 264) = true := by decide +kernel
theorem am_k264_35 : (List.range' (40 * 35) 40).all (am_chk1 264) = true := by decide +kernel
theorem am_k264_all : ∀ j, j < 36 → (List.range' (40 * j) 40).all (am_chk1 264) = true
  | 0, _ => am_k264_0
  | 1, _ => am_k264_1
  | 2, _ => am_k264_2
  | 3, _ => am_k264_3
  | 4, _ => am_k264_4
  | 5, _ => am_k264_5
  | 6, _ => am_k264_6
  | 7, _ => am_k264_7
  | 8, _ => am_k264_8
  | 9, _ => am_k264_9
  | 10, _ => am_k264_10
  | 11, _ => am_k264_11
  | 12, _ => am_k264_12
  | 13, _ => am_k264_13
  | 14, _ => am_k264_14
  | 15, _ => am_k264_15
  | 16, _ => am_k264_16
  | 17, _ => am_k264_17
  | 18, _ => am_k264_18
  | 19, _ => am_k264_19
  | 20, _ => am_k264_20
  | 21, _ => am_k264_21
  | 22, _ => am_k264_22
  | 23, _ => am_k264_23
  | 24, _ => am_k264_24
  | 25, _ => am_k264_25
  | 26, _ => am_k264_26
  | 27, _ => am_k264_27
  | 28, _ => am_k264_28
  | 29, _ => am_k264_29
  | 30, _ => am_k264_30
  | 31, _ => am_k264_31
  | 32, _ => am_k264_32
  | 33, _ => am_k264_33
  | 34, _ => am_k264_34
  | 35, _ => am_k264_35
  | n + 36, h => absurd h (by omega)
theorem am_k264 : am_okM 264 := am_okR (n := 1419) am_k264_all (by omega) (fun pc h => am_none h)
theorem am_k265 : am_okM 265 := am_okI (n := 52) (by decide +kernel) (fun pc h => am_none h)
theorem am_k266 : am_okM 266 := am_okI (n := 20) (by decide +kernel) (fun pc h => am_none h)
theorem am_ok_all : ∀ m, m < 267 → am_okM m
  | 0, _ => am_k0
  | 1, _ => am_k1
  | 2, _ => am_k2
  | 3, _ => am_k3
  | 4, _ => am_k4
  | 5, _ => am_k5
  | 6, _ => am_k6
  | 7, _ => am_k7
  | 8, _ => am_k8
  | 9, _ => am_k9
  | 10, _ => am_k10
  | 11, _ => am_k11
  | 12, _ => am_k12
  | 13, _ => am_k13
  | 14, _ => am_k14
  | 15, _ => am_k15
  | 16, _ => am_k16
  | 17, _ => am_k17
  | 18, _ => am_k18
  | 19, _ => am_k19
  | 20, _ => am_k20
  | 21, _ => am_k21
  | 22, _ => am_k22
  | 23, _ => am_k23
  | 24, _ => am_k24
  | 25, _ => am_k25
  | 26, _ => am_k26
  | 27, _ => am_k27
  | 28, _ => am_k28
  | 29, _ => am_k29
  | 30, _ => am_k30
  | 31, _ => am_k31
  | 32, _ => am_k32
  | 33, _ => am_k33
  | 34, _ => am_k34
  | 35, _ => am_k35
  | 36, _ => am_k36
  | 37, _ => am_k37
  | 38, _ => am_k38
  | 39, _ => am_k39
  | 40, _ => am_k40
  | 41, _ => am_k41
  | 42, _ => am_k42
  | 43, _ => am_k43
  | 44, _ => am_k44
  | 45, _ => am_k45
  | 46, _ => am_k46
  | 47, _ => am_k47
  | 48, _ => am_k48
  | 49, _ => am_k49
  | 50, _ => am_k50
  | 51, _ => am_k51
  | 52, _ => am_k52
  | 53, _ => am_k53
  | 54, _ => am_k54
  | 55, _ => am_k55
  | 56, _ => am_k56
  | 57, _ => am_k57
  | 58, _ => am_k58
  | 59, _ => am_k59
  | 60, _ => am_k60
  | 61, _ => am_k61
  | 62, _ => am_k62
  | 63, _ => am_k63
  | 64, _ => am_k64
  | 65, _ => am_k65
  | 66, _ => am_k66
  | 67, _ => am_k67
  | 68, _ => am_k68
  | 69, _ => am_k69
  | 70, _ => am_k70
  | 71, _ => am_k71
  | 72, _ => am_k72
  | 73, _ => am_k73
  | 74, _ => am_k74
  | 75, _ => am_k75
  | 76, _ => am_k76
  | 77, _ => am_k77
  | 78, _ => am_k78
  | 79, _ => am_k79
  | 80, _ => am_k80
  | 81, _ => am_k81
  | 82, _ => am_k82
  | 83, _ => am_k83
  | 84, _ => am_k84
  | 85, _ => am_k85
  | 86, _ => am_k86
  | 87, _ => am_k87
  | 88, _ => am_k88
  | 89, _ => am_k89
  | 90, _ => am_k90
  | 91, _ => am_k91
  | 92, _ => am_k92
  | 93, _ => am_k93
  | 94, _ => am_k94
  | 95, _ => am_k95
  | 96, _ => am_k96
  | 97, _ => am_k97
  | 98, _ => am_k98
  | 99, _ => am_k99
  | 100, _ => am_k100
  | 101, _ => am_k101
  | 102, _ => am_k102
  | 103, _ => am_k103
  | 104, _ => am_k104
  | 105, _ => am_k105
  | 106, _ => am_k106
  | 107, _ => am_k107
  | 108, _ => am_k108
  | 109, _ => am_k109
  | 110, _ => am_k110
  | 111, _ => am_k111
  | 112, _ => am_k112
  | 113, _ => am_k113
  | 114, _ => am_k114
  | 115, _ => am_k115
  | 116, _ => am_k116
  | 117, _ => am_k117
  | 118, _ => am_k118
  | 119, _ => am_k119
  | 120, _ => am_k120
  | 121, _ => am_k121
  | 122, _ => am_k122
  | 123, _ => am_k123
  | 124, _ => am_k124
  | 125, _ => am_k125
  | 126, _ => am_k126
  | 127, _ => am_k127
  | 128, _ => am_k128
  | 129, _ => am_k129
  | 130, _ => am_k130
  | 131, _ => am_k131
  | 132, _ => am_k132
  | 133, _ => am_k133
  | 134, _ => am_k134
  | 135, _ => am_k135
  | 136, _ => am_k136
  | 137, _ => am_k137
  | 138, _ => am_k138
  | 139, _ => am_k139
  | 140, _ => am_k140
  | 141, _ => am_k141
  | 142, _ => am_k142
  | 143, _ => am_k143
  | 144, _ => am_k144
  | 145, _ => am_k145
  | 146, _ => am_k146
  | 147, _ => am_k147
  | 148, _ => am_k148
  | 149, _ => am_k149
  | 150, _ => am_k150
  | 151, _ => am_k151
  | 152, _ => am_k152
  | 153, _ => am_k153
  | 154, _ => am_k154
  | 155, _ => am_k155
  | 156, _ => am_k156
  | 157, _ => am_k157
  | 158, _ => am_k158
  | 159, _ => am_k159
  | 160, _ => am_k160
  | 161, _ => am_k161
  | 162, _ => am_k162
  | 163, _ => am_k163
  | 164, _ => am_k164
  | 165, _ => am_k165
  | 166, _ => am_k166
  | 167, _ => am_k167
  | 168, _ => am_k168
  | 169, _ => am_k169
  | 170, _ => am_k170
  | 171, _ => am_k171
  | 172, _ => am_k172
  | 173, _ => am_k173
  | 174, _ => am_k174
  | 175, _ => am_k175
  | 176, _ => am_k176
  | 177, _ => am_k177
  | 178, _ => am_k178
  | 179, _ => am_k179
  | 180, _ => am_k180
  | 181, _ => am_k181
  | 182, _ => am_k182
  | 183, _ => am_k183
  | 184, _ => am_k184
  | 185, _ => am_k185
  | 186, _ => am_k186
  | 187, _ => am_k187
  | 188, _ => am_k188
  | 189, _ => am_k189
  | 190, _ => am_k190
  | 191, _ => am_k191
  | 192, _ => am_k192
  | 193, _ => am_k193
  | 194, _ => am_k194
  | 195, _ => am_k195
  | 196, _ => am_k196
  | 197, _ => am_k197
  | 198, _ => am_k198
  | 199, _ => am_k199
  | 200, _ => am_k200
  | 201, _ => am_k201
  | 202, _ => am_k202
  | 203, _ => am_k203
  | 204, _ => am_k204
  | 205, _ => am_k205
  | 206, _ => am_k206
  | 207, _ => am_k207
  | 208, _ => am_k208
  | 209, _ => am_k209
  | 210, _ => am_k210
  | 211, _ => am_k211
  | 212, _ => am_k212
  | 213, _ => am_k213
  | 214, _ => am_k214
  | 215, _ => am_k215
  | 216, _ => am_k216
  | 217, _ => am_k217
  | 218, _ => am_k218
  | 219, _ => am_k219
  | 220, _ => am_k220
  | 221, _ => am_k221
  | 222, _ => am_k222
  | 223, _ => am_k223
  | 224, _ => am_k224
  | 225, _ => am_k225
  | 226, _ => am_k226
  | 227, _ => am_k227
  | 228, _ => am_k228
  | 229, _ => am_k229
  | 230, _ => am_k230
  | 231, _ => am_k231
  | 232, _ => am_k232
  | 233, _ => am_k233
  | 234, _ => am_k234
  | 235, _ => am_k235
  | 236, _ => am_k236
  | 237, _ => am_k237
  | 238, _ => am_k238
  | 239, _ => am_k239
  | 240, _ => am_k240
  | 241, _ => am_k241
  | 242, _ => am_k242
  | 243, _ => am_k243
  | 244, _ => am_k244
  | 245, _ => am_k245
  | 246, _ => am_k246
  | 247, _ => am_k247
  | 248, _ => am_k248
  | 249, _ => am_k249
  | 250, _ => am_k250
  | 251, _ => am_k251
  | 252, _ => am_k252
  | 253, _ => am_k253
  | 254, _ => am_k254
  | 255, _ => am_k255
  | 256, _ => am_k256
  | 257, _ => am_k257
  | 258, _ => am_k258
  | 259, _ => am_k259
  | 260, _ => am_k260
  | 261, _ => am_k261
  | 262, _ => am_k262
  | 263, _ => am_k263
  | 264, _ => am_k264
  | 265, _ => am_k265
  | 266, _ => am_k266
  | n + 267, h => absurd h (by omega)
