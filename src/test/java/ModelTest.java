import java.util.ArrayDeque;
import java.util.ArrayList;
import java.util.Arrays;
import java.util.HashMap;
import java.util.List;
import java.util.Map;
import java.util.Random;

/**
 * Compares OwnLight, call by call, with a model that is as plain as the document: orders by trying every row of lamps,
 * walks by queues of places, rounds by doing all again from the start.
 */
public final class ModelTest {
    private static final int BAD = -1, FULL = -2, FINDING = -3, STATE = -4, NONE = -9;
    private static final int NEVER = 1_000_000;
    private static final int[] DX = {0, 1, 0, -1}, DY = {-1, 0, 1, 0};
    private static final String LETTERS = "lfchob";

    private static final class Lamp {
        final int kind, x, y, reach;
        boolean shaded;

        Lamp(int kind, int x, int y, int reach) {
            this.kind = kind;
            this.x = x;
            this.y = y;
            this.reach = reach;
        }

        boolean isA(int k) {
            return kind == k || k == 0 || k == 2 && kind == 5 || k == 3 && kind == 4;
        }
    }

    /** Where a round stands. */
    private static final class Spot {
        int x, y, last = NONE;
        boolean inside;
        List<Integer> lit = new ArrayList<>();

        Spot copy() {
            Spot s = new Spot();
            s.x = x;
            s.y = y;
            s.last = last;
            s.inside = inside;
            s.lit = new ArrayList<>(lit);
            return s;
        }
    }

    private static final class Model {
        final List<List<Integer>> rows = new ArrayList<>();
        final List<List<Integer>> texts = new ArrayList<>();
        int w, h, doorX, doorY;
        char[][] grid = new char[0][0];
        List<Lamp> lamps = new ArrayList<>();
        Spot start, now;
        List<Integer> acts = new ArrayList<>();
        final Spot[] kept = new Spot[3];
        final List<int[]> seen = new ArrayList<>();
        int asked, finding;
        long upper = 0, lower = 1;
        final int[] findings = new int[6];
        final Map<String, Integer> walks = new HashMap<>();

        // the text that was read last
        int newW, newH;
        StringBuilder newSigns;
        List<Lamp> newLamps;

        Model() {
            for (int i = 0; i < 6; i++) {
                rows.add(null);
            }
            for (int i = 0; i < 4; i++) {
                texts.add(null);
            }
        }

        int find(int f) {
            finding = f;
            findings[f]++;
            return FINDING;
        }

        int tell(int aside, int answer) {
            asked = aside;
            return answer;
        }

        boolean noCells() {
            return w == 0;
        }

        // ---- 1

        int row(int r, int n) {
            if (r < 0 || r > 5 || n > 60) {
                return BAD;
            }
            if (n < 0) {
                return find(5);
            }
            rows.set(r, new ArrayList<>(java.util.Collections.nCopies(n, 0)));
            return n;
        }

        int lay(int r, int i, int v) {
            if (r < 0 || r > 5) {
                return BAD;
            }
            if (rows.get(r) == null) {
                return find(1);
            }
            if (i < 0 || i >= rows.get(r).size()) {
                return find(2);
            }
            return tell(rows.get(r).set(i, v), 1);
        }

        int at(int r, int i) {
            if (r < 0 || r > 5) {
                return BAD;
            }
            if (rows.get(r) == null) {
                return find(1);
            }
            if (i < 0 || i >= rows.get(r).size()) {
                return find(2);
            }
            return tell(rows.get(r).get(i), 1);
        }

        int tear(int r) {
            if (r < 0 || r > 5) {
                return BAD;
            }
            if (rows.get(r) == null) {
                return find(1);
            }
            rows.set(r, null);
            return 1;
        }

        int copy(int r, int i, int to, int j, int n) {
            if (r < 0 || r > 5 || to < 0 || to > 5) {
                return BAD;
            }
            if (n < 0) {
                return find(5);
            }
            List<Integer> a = rows.get(r), b = rows.get(to);
            if (a == null || b == null) {
                return find(1);
            }
            if (i < 0 || j < 0 || (long) i + n > a.size() || (long) j + n > b.size()) {
                return find(2);
            }
            List<Integer> taken = new ArrayList<>(a.subList(i, i + n));
            for (int q = 0; q < n; q++) {
                b.set(j + q, taken.get(q));
            }
            return 1;
        }

        int mean(int r) {
            if (r < 0 || r > 5) {
                return BAD;
            }
            if (rows.get(r) == null) {
                return find(1);
            }
            if (rows.get(r).isEmpty()) {
                return find(4);
            }
            long sum = 0;
            for (int v : rows.get(r)) {
                sum += v;
            }
            return tell((int) (sum / rows.get(r).size()), 1);
        }

        int text(int t, int n) {
            if (t < 0 || t > 3 || n > 80) {
                return BAD;
            }
            if (n < 0) {
                return find(5);
            }
            texts.set(t, new ArrayList<>(java.util.Collections.nCopies(n, 32)));
            return n;
        }

        int put(int t, int i, int v) {
            if (t < 0 || t > 3) {
                return BAD;
            }
            if (texts.get(t) == null) {
                return find(1);
            }
            if (i < 0 || i >= texts.get(t).size()) {
                return find(2);
            }
            return texts.get(t).set(i, (int) (byte) v) + 1000;
        }

        /** One sign after the other, by what may come next. */
        int read(List<Integer> text) {
            newSigns = new StringBuilder();
            newLamps = new ArrayList<>();
            String want = "g";
            int kind = 0, x = 0, y = 0;
            int lastSign = -1;
            for (int p = 0; p < text.size(); p++) {
                int v = text.get(p);
                boolean between = want.equals("g") || want.equals("sign") || want.equals("letter");
                if (want.equals("sign") && newSigns.length() == newW * newH) {
                    if (newSigns.indexOf("D") < 0) {
                        return lastSign + 1;
                    }
                    want = "letter";
                }
                if (v == 32 && between) {
                    continue;
                }
                char c = v > 0 ? (char) v : 1;
                int d = "0123456789".indexOf(c);
                switch (want) {
                    case "g":
                        if (c != 'g') {
                            return p;
                        }
                        want = "w";
                        break;
                    case "w":
                        if (d < 2 || d > 6) {
                            return p;
                        }
                        newW = d;
                        want = "h";
                        break;
                    case "h":
                        if (d < 1 || d > 4) {
                            return p;
                        }
                        newH = d;
                        want = "sign";
                        break;
                    case "sign":
                        if (".#D".indexOf(c) < 0 || c == 'D' && newSigns.indexOf("D") >= 0) {
                            return p;
                        }
                        newSigns.append(c);
                        lastSign = p;
                        break;
                    case "letter":
                        kind = LETTERS.indexOf(c);
                        if (kind < 0 || newLamps.size() == 6) {
                            return p;
                        }
                        want = "x";
                        break;
                    case "x":
                        if (d < 0 || d >= newW) {
                            return p;
                        }
                        x = d;
                        want = "y";
                        break;
                    case "y":
                        if (d < 0 || d >= newH || newSigns.charAt(d * newW + x) == '#') {
                            return p;
                        }
                        for (Lamp l : newLamps) {
                            if (l.x == x && l.y == d) {
                                return p;
                            }
                        }
                        y = d;
                        want = "reach";
                        break;
                    default:
                        if (d < 1 || d > 5) {
                            return p;
                        }
                        newLamps.add(new Lamp(kind, x, y, d));
                        want = "letter";
                }
            }
            if (want.equals("sign") && newSigns.length() == newW * newH) {
                return newSigns.indexOf("D") < 0 ? lastSign + 1 : NONE;
            }
            return want.equals("letter") ? NONE : text.size();
        }

        int fault(int t) {
            if (t < 0 || t > 3) {
                return BAD;
            }
            return texts.get(t) == null ? find(1) : read(texts.get(t));
        }

        int town(int t) {
            if (t < 0 || t > 3) {
                return BAD;
            }
            if (texts.get(t) == null) {
                return find(1);
            }
            if (read(texts.get(t)) != NONE) {
                return STATE;
            }
            w = newW;
            h = newH;
            grid = new char[h][w];
            for (int i = 0; i < w * h; i++) {
                grid[i / w][i % w] = newSigns.charAt(i);
                if (newSigns.charAt(i) == 'D') {
                    doorX = i % w;
                    doorY = i / w;
                }
            }
            lamps = newLamps;
            walks.clear();
            Arrays.fill(kept, null);
            seen.clear();
            begin();
            return lamps.size();
        }

        boolean street(int x, int y) {
            return x >= 0 && y >= 0 && x < w && y < h && grid[y][x] != '#';
        }

        boolean cellThere(int c) {
            return c >= 0 && c < w * h;
        }

        boolean lampThere(int k) {
            return k >= 0 && k < lamps.size();
        }

        boolean setThere(int set) {
            return set >= 0 && set < 1 << lamps.size();
        }

        int lampIn(int x, int y) {
            for (int k = 0; k < lamps.size(); k++) {
                if (lamps.get(k).x == x && lamps.get(k).y == y) {
                    return k;
                }
            }
            return NONE;
        }

        int cell(int c) {
            if (!cellThere(c)) {
                return BAD;
            }
            char sign = grid[c / w][c % w];
            return tell(lampIn(c % w, c / w), sign == '.' ? 0 : sign == '#' ? 1 : 2);
        }

        int lampTold(int k, int what) {
            Lamp l = lamps.get(k);
            int[] all = {l.kind, l.y * w + l.x, l.reach, now.lit.contains(k) ? 1 : 0, l.shaded ? 1 : 0};
            return all[what];
        }

        int lamp(int k, int what) {
            return !lampThere(k) || what < 0 || what > 4 ? BAD : tell(lampTold(k, what), 1);
        }

        boolean onLine(int fx, int fy, int tx, int ty, int far, boolean upToo) {
            for (int d = 0; d < 4; d++) {
                if (!upToo && DX[d] == 0) {
                    continue;
                }
                int x = fx, y = fy;
                for (int i = 0; i <= far && street(x, y); i++) {
                    if (x == tx && y == ty) {
                        return true;
                    }
                    x += DX[d];
                    y += DY[d];
                }
            }
            return false;
        }

        int stepsBetween(int fx, int fy, int tx, int ty) {
            int[][] far = new int[h][w];
            for (int[] r : far) {
                Arrays.fill(r, NEVER);
            }
            far[fy][fx] = 0;
            for (int round = 0; round < w * h; round++) {
                for (int y = 0; y < h; y++) {
                    for (int x = 0; x < w; x++) {
                        for (int d = 0; d < 4 && far[y][x] < NEVER; d++) {
                            if (street(x + DX[d], y + DY[d])) {
                                far[y + DY[d]][x + DX[d]] = Math.min(far[y + DY[d]][x + DX[d]], far[y][x] + 1);
                            }
                        }
                    }
                }
            }
            return far[ty][tx];
        }

        /** As if not shaded. */
        boolean wouldShine(Lamp l, int x, int y) {
            switch (l.kind) {
                case 0:
                    return onLine(l.x, l.y, x, y, l.reach, true);
                case 1:
                    return onLine(l.x, l.y, x, y, l.reach + 1, true);
                case 2:
                    return stepsBetween(l.x, l.y, x, y) <= l.reach;
                case 3:
                    return onLine(l.x, l.y, x, y, l.reach, false);
                case 4:
                    return onLine(l.x, l.y, x, y, l.reach - 1, false);
                default:
                    return stepsBetween(l.x, l.y, x, y) <= l.reach + 1;
            }
        }

        final Map<Lamp, boolean[][]> shining = new HashMap<>();

        boolean shinesOn(Lamp l, int x, int y) {
            if (l.shaded) {
                return l.x == x && l.y == y;
            }
            boolean[][] all = shining.get(l);
            if (all == null) {
                all = new boolean[h][w];
                for (int c = 0; c < w * h; c++) {
                    all[c / w][c % w] = wouldShine(l, c % w, c / w);
                }
                shining.put(l, all);
            }
            return all[y][x];
        }

        int mark(int k, int kind) {
            if (!lampThere(k) || kind < 1 || kind > 5) {
                return BAD;
            }
            Lamp l = lamps.get(k);
            if (!l.isA(kind)) {
                return find(3);
            }
            int shine = 0, lines = 0, plain = 0, others = 0;
            int far = l.kind == 1 || l.kind == 5 ? l.reach + 1 : l.kind == 4 ? l.reach - 1 : l.reach;
            for (int c = 0; c < w * h; c++) {
                boolean on = wouldShine(l, c % w, c / w);
                shine += on ? 1 : 0;
                lines += onLine(l.x, l.y, c % w, c / w, far, true) ? 1 : 0;
                plain += onLine(l.x, l.y, c % w, c / w, l.reach, true) ? 1 : 0;
                int other = lampIn(c % w, c / w);
                others += on && other != NONE && other != k ? 1 : 0;
            }
            return kind == 2 ? shine - lines : kind == 3 ? plain - shine : kind == 5 ? others : shine;
        }

        int lightOf(int set) {
            int cells = 0;
            for (int c = 0; c < w * h; c++) {
                for (int k = 0; k < lamps.size(); k++) {
                    if ((set >> k & 1) == 1 && shinesOn(lamps.get(k), c % w, c / w)) {
                        cells |= 1 << c;
                    }
                }
            }
            return cells;
        }

        int shines(int k) {
            return lampThere(k) ? lightOf(1 << k) : BAD;
        }

        int light(int set) {
            return setThere(set) ? tell(Integer.bitCount(lightOf(set)), lightOf(set)) : BAD;
        }

        int shade(int k, int is) {
            if (!lampThere(k) || is != 0 && is != 1) {
                return BAD;
            }
            if (now.lit.contains(k)) {
                return STATE;
            }
            int was = lamps.get(k).shaded ? 1 : 0;
            lamps.get(k).shaded = is == 1;
            walks.clear();
            return was;
        }

        // ---- 2

        Spot atDoor() {
            Spot s = new Spot();
            s.x = doorX;
            s.y = doorY;
            return s;
        }

        int begin() {
            if (noCells()) {
                return STATE;
            }
            start = atDoor();
            now = atDoor();
            acts.clear();
            return doorY * w + doorX;
        }

        boolean can(Spot s, int what) {
            if (what < 4) {
                int x = s.x + DX[what], y = s.y + DY[what];
                if (!street(x, y)) {
                    return false;
                }
                for (int k : s.lit) {
                    if (shinesOn(lamps.get(k), x, y) && !(s.inside && k == s.last)) {
                        return false;
                    }
                }
                return true;
            }
            int k = lampIn(s.x, s.y);
            if (k == NONE || s.lit.contains(k)) {
                return false;
            }
            for (int j : s.lit) {
                if (shinesOn(lamps.get(j), s.x, s.y)) {
                    return false;
                }
            }
            return true;
        }

        void go(Spot s, int what) {
            if (what == 4) {
                s.last = lampIn(s.x, s.y);
                s.lit.add(s.last);
                s.inside = true;
                return;
            }
            s.x += DX[what];
            s.y += DY[what];
            if (s.inside && !shinesOn(lamps.get(s.last), s.x, s.y)) {
                s.inside = false;
            }
        }

        int mayOf(Spot s) {
            int all = 0;
            for (int what = 0; what < 5; what++) {
                all |= can(s, what) ? 1 << what : 0;
            }
            return all;
        }

        int may() {
            return noCells() ? STATE : tell(now.inside ? 1 : 0, mayOf(now));
        }

        int act(int what) {
            if (what < 0 || what > 4) {
                return BAD;
            }
            if (noCells() || !can(now, what)) {
                return STATE;
            }
            if (acts.size() == 200) {
                return FULL;
            }
            acts.add(what);
            go(now, what);
            return now.y * w + now.x;
        }

        int where() {
            return noCells() ? STATE : tell(acts.size(), now.y * w + now.x);
        }

        int litSet(Spot s) {
            int set = 0;
            for (int k : s.lit) {
                set |= 1 << k;
            }
            return set;
        }

        int lit() {
            return noCells() ? tell(NONE, 0) : tell(now.last, litSet(now));
        }

        int undo(int n) {
            if (n < 0 || n > acts.size()) {
                return BAD;
            }
            int undone = acts.size() - n;
            while (acts.size() > n) {
                acts.remove(acts.size() - 1);
            }
            if (!noCells()) {
                now = start.copy();
                for (int what : acts) {
                    go(now, what);
                }
            }
            return undone;
        }

        int judge(int r) {
            if (r < 0 || r > 5) {
                return BAD;
            }
            if (noCells()) {
                return STATE;
            }
            if (rows.get(r) == null) {
                return find(1);
            }
            for (int v : rows.get(r)) {
                if (v < 0 || v > 4) {
                    return find(3);
                }
            }
            Spot s = now.copy();
            int done = 0;
            for (int v : rows.get(r)) {
                if (!can(s, v)) {
                    break;
                }
                go(s, v);
                done++;
            }
            return tell(s.lit.size(), done);
        }

        int keep(int k) {
            if (k < 0 || k > 2) {
                return BAD;
            }
            if (noCells()) {
                return STATE;
            }
            kept[k] = now.copy();
            return acts.size();
        }

        int on(int k) {
            if (k < 0 || k > 2) {
                return BAD;
            }
            if (kept[k] == null) {
                return find(1);
            }
            start = kept[k].copy();
            now = kept[k].copy();
            acts.clear();
            return now.y * w + now.x;
        }

        // ---- 3

        /** The fewest steps to light a lamp from where somebody stands. */
        int walk(Spot from, int target) {
            String key = from.x + "," + from.y + "," + from.last + "," + from.inside + "," + litSet(from) + "," + target;
            Integer known = walks.get(key);
            if (known != null) {
                return known;
            }
            Map<String, Integer> steps = new HashMap<>();
            ArrayDeque<Spot> queue = new ArrayDeque<>();
            queue.add(from);
            steps.put(from.x + "," + from.y + "," + from.inside, 0);
            int found = NEVER;
            while (!queue.isEmpty()) {
                Spot s = queue.poll();
                int so = steps.get(s.x + "," + s.y + "," + s.inside);
                if (lampIn(s.x, s.y) == target && can(s, 4)) {
                    found = Math.min(found, so);
                }
                for (int way = 0; way < 4; way++) {
                    if (can(s, way)) {
                        Spot next = s.copy();
                        go(next, way);
                        if (steps.putIfAbsent(next.x + "," + next.y + "," + next.inside, so + 1) == null) {
                            queue.add(next);
                        }
                    }
                }
            }
            walks.put(key, found);
            return found;
        }

        /** All rows of the lamps of a set, from where somebody stands, each with its steps behind it, in their order. */
        void ordersFrom(Spot s, int set, List<Integer> row, int steps, List<List<Integer>> all) {
            if (set == 0) {
                List<Integer> one = new ArrayList<>(row);
                one.add(steps);
                all.add(one);
                return;
            }
            for (int k = 0; k < lamps.size(); k++) {
                int more = (set >> k & 1) == 1 ? walk(s, k) : NEVER;
                if (more < NEVER) {
                    Spot next = s.copy();
                    next.x = lamps.get(k).x;
                    next.y = lamps.get(k).y;
                    next.lit.add(k);
                    next.last = k;
                    next.inside = true;
                    row.add(k);
                    ordersFrom(next, set & ~(1 << k), row, steps + more, all);
                    row.remove(row.size() - 1);
                }
            }
        }

        List<List<Integer>> ordersOf(int set) {
            List<List<Integer>> all = new ArrayList<>();
            ordersFrom(atDoor(), set, new ArrayList<>(), 0, all);
            return all;
        }

        int all() {
            return (1 << lamps.size()) - 1;
        }

        static int stepsOf(List<Integer> order) {
            return order.get(order.size() - 1);
        }

        static int fewest(List<List<Integer>> orders) {
            int fewest = NEVER;
            for (List<Integer> o : orders) {
                fewest = Math.min(fewest, stepsOf(o));
            }
            return fewest;
        }

        int shortest(int r) {
            if (r < 0 || r > 5) {
                return BAD;
            }
            if (noCells()) {
                return STATE;
            }
            List<List<Integer>> orders = ordersOf(all());
            int fewest = fewest(orders);
            for (List<Integer> o : orders) {
                if (stepsOf(o) == fewest) {
                    rows.set(r, new ArrayList<>(o.subList(0, o.size() - 1)));
                    return fewest;
                }
            }
            return NONE;
        }

        int orders() {
            if (noCells()) {
                return STATE;
            }
            upper = ordersOf(all()).size();
            lower = 1;
            return 1;
        }

        int first() {
            if (noCells()) {
                return STATE;
            }
            int begins = 0, ends = 0;
            for (List<Integer> o : ordersOf(all())) {
                if (o.size() > 1) {
                    begins |= 1 << o.get(0);
                    ends |= 1 << o.get(o.size() - 2);
                }
            }
            return tell(ends, begins);
        }

        boolean bars(int k, int j) {
            return k != j && shinesOn(lamps.get(k), lamps.get(j).x, lamps.get(j).y);
        }

        int bars(int k) {
            if (!lampThere(k)) {
                return BAD;
            }
            int on = 0, by = 0;
            for (int j = 0; j < lamps.size(); j++) {
                on |= bars(k, j) ? 1 << j : 0;
                by |= bars(j, k) ? 1 << j : 0;
            }
            return tell(by, on);
        }

        /** Every ring from a lamp through others, each once. */
        void ringsFrom(int begin, int k, int used, int size, int[] found) {
            for (int j = 0; j < lamps.size(); j++) {
                if (bars(j, k)) {
                    if (j == begin) {
                        found[0] |= used;
                        found[1] = found[1] == 0 ? size : Math.min(found[1], size);
                    } else if ((used >> j & 1) == 0) {
                        ringsFrom(begin, j, used | 1 << j, size + 1, found);
                    }
                }
            }
        }

        int rings() {
            int[] found = new int[2];
            for (int k = 0; k < lamps.size(); k++) {
                ringsFrom(k, k, 1 << k, 1, found);
            }
            return tell(found[1], found[0]);
        }

        int dark() {
            if (noCells()) {
                return STATE;
            }
            for (int many = 0; many <= lamps.size(); many++) {
                for (int left = 0; left <= all(); left++) {
                    if (Integer.bitCount(left) == many && !ordersOf(all() & ~left).isEmpty()) {
                        return tell(left, many);
                    }
                }
            }
            throw new IllegalStateException();
        }

        int bright() {
            if (noCells()) {
                return STATE;
            }
            int most = -1, which = 0;
            for (int many = 0; many <= lamps.size(); many++) {
                for (int set = 0; set <= all(); set++) {
                    int cells = Integer.bitCount(lightOf(set));
                    if (Integer.bitCount(set) == many && cells > most && !ordersOf(set).isEmpty()) {
                        most = cells;
                        which = set;
                    }
                }
            }
            return tell(which, most);
        }

        int shades() {
            if (noCells()) {
                return STATE;
            }
            boolean[] before = new boolean[lamps.size()];
            for (int k = 0; k < before.length; k++) {
                before[k] = lamps.get(k).shaded;
            }
            int best = NONE;
            for (int set = 0; set <= all(); set++) {
                boolean more = true;
                for (int k = 0; k < before.length; k++) {
                    boolean too = (set >> k & 1) == 1;
                    more &= !(too && before[k]);
                    lamps.get(k).shaded = before[k] || too;
                }
                walks.clear();
                if (more && (best == NONE || Integer.bitCount(set) < Integer.bitCount(best)) && !ordersOf(all()).isEmpty()) {
                    best = set;
                }
            }
            for (int k = 0; k < before.length; k++) {
                lamps.get(k).shaded = before[k];
            }
            walks.clear();
            return best == NONE ? NONE : tell(best, Integer.bitCount(best));
        }

        int two(int c) {
            if (!cellThere(c) || !street(c % w, c / w)) {
                return BAD;
            }
            int best = NEVER, which = 0;
            for (int many = 0; many <= lamps.size(); many++) {
                for (int set = 0; set <= all(); set++) {
                    if (Integer.bitCount(set) != many) {
                        continue;
                    }
                    int steps = fewest(ordersOf(set));
                    int others = all() & ~set;
                    if (others != 0) {
                        if ((lightOf(set) >> c & 1) == 1) {
                            continue;
                        }
                        Spot s = new Spot();
                        s.x = c % w;
                        s.y = c / w;
                        for (int k = 0; k < lamps.size(); k++) {
                            if ((set >> k & 1) == 1) {
                                s.lit.add(k);
                            }
                        }
                        List<List<Integer>> second = new ArrayList<>();
                        ordersFrom(s, others, new ArrayList<>(), 0, second);
                        steps += fewest(second);
                    }
                    if (steps < best) {
                        best = steps;
                        which = set;
                    }
                }
            }
            return best >= NEVER ? NONE : tell(which, best);
        }

        // ---- 4

        int thief(int c, int set) {
            if (!cellThere(c) || !setThere(set)) {
                return BAD;
            }
            int bright = lightOf(set), free = 0;
            ArrayDeque<Integer> queue = new ArrayDeque<>();
            queue.add(c);
            while (!queue.isEmpty()) {
                int at = queue.poll(), x = at % w, y = at / w;
                if (!street(x, y) || (bright >> at & 1) == 1 || (free >> at & 1) == 1) {
                    continue;
                }
                free |= 1 << at;
                for (int d = 0; d < 4; d++) {
                    if (street(x + DX[d], y + DY[d])) {
                        queue.add((y + DY[d]) * w + x + DX[d]);
                    }
                }
            }
            return tell(Integer.bitCount(free), free);
        }

        int saw(int j, int k) {
            if (!lampThere(j) || !lampThere(k) || j == k) {
                return BAD;
            }
            if (seen.size() == 8) {
                return FULL;
            }
            seen.add(new int[] {j, k});
            return seen.size() - 1;
        }

        int forget(int n) {
            if (n < 0 || n > seen.size()) {
                return BAD;
            }
            int gone = 0;
            while (seen.size() > n) {
                seen.remove(seen.size() - 1);
                gone++;
            }
            return gone;
        }

        List<List<Integer>> fitting() {
            List<List<Integer>> fit = new ArrayList<>();
            for (List<Integer> o : ordersOf(all())) {
                boolean fits = true;
                List<Integer> row = o.subList(0, o.size() - 1);
                for (int[] s : seen) {
                    fits &= row.indexOf(s[0]) < row.indexOf(s[1]);
                }
                if (fits) {
                    fit.add(row);
                }
            }
            return fit;
        }

        int fits() {
            if (noCells()) {
                return STATE;
            }
            int all = ordersOf(all()).size(), fit = fitting().size();
            if (all == 0) {
                return find(4);
            }
            upper = fit;
            lower = all;
            for (int d = all; d > 1; d--) {
                if (upper % d == 0 && lower % d == 0) {
                    upper /= d;
                    lower /= d;
                }
            }
            return fit;
        }

        int sure(int j, int k) {
            if (!lampThere(j) || !lampThere(k) || j == k) {
                return BAD;
            }
            boolean yes = false, no = false;
            for (List<Integer> row : fitting()) {
                if (row.indexOf(j) < row.indexOf(k)) {
                    yes = true;
                } else {
                    no = true;
                }
            }
            return yes ? no ? 2 : 1 : no ? 0 : find(4);
        }

        /** Steps from where he put out a lamp to another one that burns. */
        int dawnWalk(int burning, int out, int target) {
            Map<Integer, Integer> steps = new HashMap<>();
            ArrayDeque<Integer> queue = new ArrayDeque<>();
            int begin = (lamps.get(out).y * w + lamps.get(out).x) * 2 + 1;
            queue.add(begin);
            steps.put(begin, 0);
            while (!queue.isEmpty()) {
                int s = queue.poll(), x = s / 2 % w, y = s / 2 / w;
                boolean notLeft = s % 2 == 1;
                if (lampIn(x, y) == target) {
                    return steps.get(s);
                }
                for (int d = 0; d < 4; d++) {
                    int nx = x + DX[d], ny = y + DY[d];
                    if (!street(nx, ny)) {
                        continue;
                    }
                    boolean still = notLeft && shinesOn(lamps.get(out), nx, ny);
                    if (!still && (lightOf(burning) >> (ny * w + nx) & 1) == 0) {
                        continue;
                    }
                    int next = (ny * w + nx) * 2 + (still ? 1 : 0);
                    if (steps.putIfAbsent(next, steps.get(s) + 1) == null) {
                        queue.add(next);
                    }
                }
            }
            return NEVER;
        }

        int dawnFrom(int burning, int out) {
            int best = burning == 0 ? 0 : NEVER;
            for (int k = 0; k < lamps.size(); k++) {
                if ((burning >> k & 1) == 1) {
                    String key = "dawn" + burning + "," + out + "," + k;
                    Integer steps = walks.get(key);
                    if (steps == null) {
                        steps = dawnWalk(burning, out, k);
                        walks.put(key, steps);
                    }
                    if (steps < NEVER) {
                        best = Math.min(best, steps + dawnFrom(burning & ~(1 << k), k));
                    }
                }
            }
            return best;
        }

        int dawn() {
            if (lamps.isEmpty()) {
                return STATE;
            }
            int best = NEVER, which = NONE;
            for (int k = 0; k < lamps.size(); k++) {
                int steps = dawnFrom(all() & ~(1 << k), k);
                if (steps < best) {
                    best = steps;
                    which = k;
                }
            }
            return best >= NEVER ? NONE : tell(which, best);
        }

        int lots(int n, int seed) {
            if (n < 1 || n > 200 || seed < 1 || seed > 2147483646) {
                return BAD;
            }
            if (noCells()) {
                return STATE;
            }
            Spot s = atDoor();
            long number = seed;
            int done = 0;
            while (done < n) {
                List<Integer> ways = new ArrayList<>();
                for (int what = 0; what < 5; what++) {
                    if (can(s, what)) {
                        ways.add(what);
                    }
                }
                if (ways.isEmpty()) {
                    break;
                }
                number = number * 48271 % 2147483647L;
                go(s, ways.get((int) (number % ways.size())));
                done++;
            }
            return tell(done, s.lit.size());
        }

        // ---- 5

        int count(int what) {
            int many = 0;
            switch (what) {
                case 0:
                    return w * h;
                case 1:
                    return lamps.size();
                case 2:
                    return noCells() ? 0 : now.lit.size();
                case 3:
                    for (Lamp l : lamps) {
                        many += l.shaded ? 1 : 0;
                    }
                    return many;
                case 4:
                case 5:
                    for (Lamp l : lamps) {
                        many += l.isA(what - 2) ? 1 : 0;
                    }
                    return many;
                case 6:
                    for (List<Integer> r : rows) {
                        many += r == null ? 0 : 1;
                    }
                    return many;
                case 7:
                    for (List<Integer> t : texts) {
                        many += t == null ? 0 : 1;
                    }
                    return many;
                case 8:
                    return seen.size();
                default:
                    return BAD;
            }
        }

        int findings(int f) {
            return f < 1 || f > 5 ? BAD : findings[f];
        }

        long digest() {
            List<Integer> all = new ArrayList<>();
            for (int what = 0; what < 9; what++) {
                all.add(count(what));
            }
            for (int c = 0; c < w * h; c++) {
                char sign = grid[c / w][c % w];
                all.add(sign == '.' ? 0 : sign == '#' ? 1 : 2);
            }
            for (int k = 0; k < lamps.size(); k++) {
                for (int what = 0; what < 5; what++) {
                    all.add(lampTold(k, what));
                }
            }
            all.add(noCells() ? NONE : now.y * w + now.x);
            all.add(!noCells() && now.inside ? 1 : 0);
            all.add(noCells() ? NONE : now.last);
            all.add(acts.size());
            all.addAll(acts);
            for (int[] s : seen) {
                all.add(s[0]);
                all.add(s[1]);
            }
            for (Spot s : kept) {
                if (s == null) {
                    all.add(-1);
                } else {
                    all.add(s.y * w + s.x);
                    all.add(litSet(s));
                }
            }
            List<List<Integer>> strips = new ArrayList<>(rows);
            strips.addAll(texts);
            for (List<Integer> strip : strips) {
                all.add(strip == null ? -1 : strip.size());
                all.addAll(strip == null ? List.of() : strip);
            }
            long sum = 17;
            for (int v : all) {
                sum = 31 * sum + v;
            }
            return sum;
        }
    }

    // ---- the comparison

    private static final int CALLS = 512;
    private static int wrong = 0;

    private final Random random;
    private final int run;
    private final OwnLight program = new OwnLight();
    private final Model model = new Model();
    private final StringBuilder told = new StringBuilder();
    private int calls = 0;

    private ModelTest(int run) {
        this.run = run;
        this.random = new Random(run);
    }

    private void due(String call, long got, long want) {
        calls++;
        told.append("  ").append(call).append(" -> ").append(got).append('\n');
        if (got != want) {
            wrong++;
            if (wrong <= 5) {
                System.out.println("run " + run + ": " + call + " answered " + got + ", due is " + want + ", behind\n" + told);
            }
        }
    }

    private int number(int least, int most) {
        return least + random.nextInt(most - least + 1);
    }

    /** Mostly one of these; now and then one beside them. */
    private int around(int least, int most) {
        switch (random.nextInt(40)) {
            case 0:
                return least - 1;
            case 1:
                return most + 1;
            case 2:
                return random.nextBoolean() ? Integer.MIN_VALUE : Integer.MAX_VALUE;
            default:
                return number(least, Math.max(least, most));
        }
    }

    private String townText() {
        int w = number(2, 6), h = number(1, 4);
        int walls = random.nextInt(4);
        int most = random.nextInt(8) == 0 ? 7 : 6;
        StringBuilder s = new StringBuilder(random.nextInt(5) == 0 ? " " : "").append('g').append(w).append(h);
        int door = random.nextInt(25) == 0 ? -1 : random.nextInt(w * h);
        for (int c = 0; c < w * h; c++) {
            s.append(random.nextInt(30) == 0 ? " " : "");
            s.append(c == door ? 'D' : random.nextInt(10) < walls ? '#' : random.nextInt(300) == 0 ? 'D' : '.');
        }
        String signs = s.toString().replace(" ", "").substring(3);
        List<Integer> free = new ArrayList<>();
        for (int c = 0; c < w * h; c++) {
            if (signs.charAt(c) != '#' || random.nextInt(80) == 0) {
                free.add(c);
            }
        }
        int lamps = Math.min(free.size(), random.nextInt(most + 1));
        for (int k = 0; k < lamps; k++) {
            int c = random.nextInt(60) == 0 ? free.get(0) : free.remove(random.nextInt(free.size()));
            s.append(random.nextBoolean() ? " " : "").append(LETTERS.charAt(random.nextInt(6)));
            s.append(c % w).append(c / w).append(random.nextInt(3) == 0 ? number(1, 5) : 1);
        }
        if (random.nextInt(6) == 0) {
            s.setCharAt(random.nextInt(s.length()), "g.#D l0125679b x".charAt(random.nextInt(16)));
        }
        if (random.nextInt(12) == 0) {
            s.setLength(random.nextInt(s.length() + 1));
        }
        return s.length() > 80 ? s.substring(0, 80) : s.toString();
    }

    private void layTown() {
        String s = townText();
        int t = number(0, 3);
        due("text(" + t + ", " + s.length() + ")", program.text(t, s.length()), model.text(t, s.length()));
        for (int i = 0; i < s.length(); i++) {
            if (s.charAt(i) != ' ') {
                // a byte is what is left of any number like it
                int v = s.charAt(i) + 256 * number(-1, 1);
                due("put(" + t + ", " + i + ", " + v + ")", program.put(t, i, v), model.put(t, i, v));
            }
        }
        due("fault(" + t + ")", program.fault(t), model.fault(t));
        due("town(" + t + ")", program.town(t), model.town(t));
        due("digest()", program.digest(), model.digest());
    }

    private int set() {
        return random.nextInt(20) == 0 ? around(-1, 64) : random.nextInt(1 << model.lamps.size());
    }

    private int lampNumber() {
        return around(0, model.lamps.size() - 1);
    }

    private int cellNumber() {
        return around(0, model.w * model.h - 1);
    }

    private void step() {
        int a, b;
        switch (random.nextInt(60)) {
            case 0:
                a = around(0, 5);
                b = random.nextInt(6) == 0 ? around(0, 60) : around(0, 9);
                due("row(" + a + ", " + b + ")", program.row(a, b), model.row(a, b));
                break;
            case 1:
            case 2:
            case 3:
            case 4:
                a = around(0, 5);
                b = around(0, 8);
                int v = random.nextInt(10) == 0 ? random.nextInt() : around(0, 4);
                due("lay(" + a + ", " + b + ", " + v + ")", program.lay(a, b, v), model.lay(a, b, v));
                break;
            case 5:
                a = around(0, 5);
                b = around(0, 8);
                due("at(" + a + ", " + b + ")", program.at(a, b), model.at(a, b));
                break;
            case 6:
                a = random.nextInt(3) == 0 ? around(0, 5) : 6;
                due("tear(" + a + ")", program.tear(a), model.tear(a));
                break;
            case 7:
                a = around(0, 5);
                b = random.nextInt(3) == 0 ? a : around(0, 5);
                int i = around(0, 5), j = around(0, 5), n = around(0, 5);
                due("copy(" + a + ", " + i + ", " + b + ", " + j + ", " + n + ")",
                        program.copy(a, i, b, j, n), model.copy(a, i, b, j, n));
                break;
            case 8:
                a = around(0, 5);
                due("mean(" + a + ")", program.mean(a), model.mean(a));
                break;
            case 9:
                a = around(0, 3);
                b = random.nextInt(5) == 0 ? around(0, 80) : -1;
                due("text(" + a + ", " + b + ")", program.text(a, b), model.text(a, b));
                break;
            case 10:
                a = around(0, 3);
                b = around(0, 40);
                int byteValue = random.nextInt(400) - 200;
                due("put(" + a + ", " + b + ", " + byteValue + ")", program.put(a, b, byteValue), model.put(a, b, byteValue));
                break;
            case 11:
                a = around(0, 3);
                due("fault(" + a + ")", program.fault(a), model.fault(a));
                break;
            case 12:
                a = around(0, 3);
                due("town(" + a + ")", program.town(a), model.town(a));
                break;
            case 13:
                a = cellNumber();
                due("cell(" + a + ")", program.cell(a), model.cell(a));
                break;
            case 14:
                a = lampNumber();
                b = around(0, 4);
                due("lamp(" + a + ", " + b + ")", program.lamp(a, b), model.lamp(a, b));
                break;
            case 15:
                a = lampNumber();
                b = around(1, 5);
                due("mark(" + a + ", " + b + ")", program.mark(a, b), model.mark(a, b));
                break;
            case 16:
                a = lampNumber();
                due("shines(" + a + ")", program.shines(a), model.shines(a));
                break;
            case 17:
                a = set();
                due("light(" + a + ")", program.light(a), model.light(a));
                break;
            case 18:
            case 19:
                a = lampNumber();
                b = around(0, 1);
                due("shade(" + a + ", " + b + ")", program.shade(a, b), model.shade(a, b));
                break;
            case 20:
                due("begin()", program.begin(), model.begin());
                break;
            case 21:
            case 22:
                due("may()", program.may(), model.may());
                break;
            case 23:
                due("where()", program.where(), model.where());
                break;
            case 24:
                due("lit()", program.lit(), model.lit());
                break;
            case 25:
                a = around(0, model.acts.size());
                due("undo(" + a + ")", program.undo(a), model.undo(a));
                break;
            case 26:
                judge();
                break;
            case 27:
                a = around(0, 2);
                due("keep(" + a + ")", program.keep(a), model.keep(a));
                break;
            case 28:
                a = around(0, 2);
                due("on(" + a + ")", program.on(a), model.on(a));
                break;
            case 29:
                a = around(0, 5);
                due("shortest(" + a + ")", program.shortest(a), model.shortest(a));
                break;
            case 30:
                due("orders()", program.orders(), model.orders());
                break;
            case 31:
                due("first()", program.first(), model.first());
                break;
            case 32:
                a = lampNumber();
                due("bars(" + a + ")", program.bars(a), model.bars(a));
                break;
            case 33:
                due("rings()", program.rings(), model.rings());
                break;
            case 34:
                due("dark()", program.dark(), model.dark());
                break;
            case 35:
                due("bright()", program.bright(), model.bright());
                break;
            case 36:
                due("shades()", program.shades(), model.shades());
                break;
            case 37:
                a = cellNumber();
                due("two(" + a + ")", program.two(a), model.two(a));
                break;
            case 38:
                a = cellNumber();
                b = set();
                due("thief(" + a + ", " + b + ")", program.thief(a, b), model.thief(a, b));
                break;
            case 39:
            case 40:
                a = lampNumber();
                b = lampNumber();
                due("saw(" + a + ", " + b + ")", program.saw(a, b), model.saw(a, b));
                break;
            case 41:
                a = around(0, model.seen.size());
                due("forget(" + a + ")", program.forget(a), model.forget(a));
                break;
            case 42:
                due("fits()", program.fits(), model.fits());
                break;
            case 43:
                a = lampNumber();
                b = lampNumber();
                due("sure(" + a + ", " + b + ")", program.sure(a, b), model.sure(a, b));
                break;
            case 44:
                due("dawn()", program.dawn(), model.dawn());
                break;
            case 45:
                a = around(1, 200);
                b = around(1, 2147483646);
                due("lots(" + a + ", " + b + ")", program.lots(a, b), model.lots(a, b));
                break;
            case 46:
                a = around(0, 8);
                due("count(" + a + ")", program.count(a), model.count(a));
                break;
            case 47:
                a = around(1, 5);
                due("findings(" + a + ")", program.findings(a), model.findings(a));
                break;
            default:
                act();
        }
    }

    /** Mostly what he may do, a lamp rather than a step. */
    private void act() {
        int may = model.noCells() ? 0 : model.mayOf(model.now);
        int what = around(0, 4);
        if (may != 0 && random.nextInt(8) != 0) {
            while ((may >> (what & 7) & 1) == 0) {
                what = number(0, 4);
            }
            what = (may & 16) != 0 && random.nextInt(2) == 0 ? 4 : what;
        }
        due("act(" + what + ")", program.act(what), model.act(what));
    }

    /** A row of what he may do, as a rule, with something else at its end. */
    private void judge() {
        int r = around(0, 5);
        if (!model.noCells() && r >= 0 && r < 6 && random.nextInt(4) != 0) {
            int n = number(0, 8);
            due("row(" + r + ", " + n + ")", program.row(r, n), model.row(r, n));
            Spot s = model.now.copy();
            for (int i = 0; i < n; i++) {
                int what = number(0, 4);
                for (int tries = 0; tries < 20 && !model.can(s, what); tries++) {
                    what = number(0, 4);
                }
                if (!model.can(s, what)) {
                    break;
                }
                model.go(s, what);
                due("lay(" + r + ", " + i + ", " + what + ")", program.lay(r, i, what), model.lay(r, i, what));
            }
        }
        due("judge(" + r + ")", program.judge(r), model.judge(r));
    }

    private void tell() {
        due("asked()", program.asked(), model.asked);
        if (random.nextInt(3) == 0) {
            due("upper()", program.upper(), model.upper);
            due("lower()", program.lower(), model.lower);
            due("finding()", program.finding(), model.finding);
            due("digest()", program.digest(), model.digest());
        }
    }

    private void whole() {
        if (random.nextInt(8) != 0) {
            layTown();
        }
        while (calls < CALLS - 25 && wrong == 0) {
            if (random.nextInt(60) == 0 && calls < CALLS - 120) {
                layTown();
            }
            step();
            tell();
        }
    }

    /** An object that is used as long as it may be. */
    private void longRound() {
        layTown();
        while (calls < CALLS - 3 && wrong == 0) {
            act();
        }
        due("where()", program.where(), model.where());
        due("digest()", program.digest(), model.digest());
        due("undo(100)", program.undo(100), model.undo(100));
    }

    public static void main(String[] args) {
        int runs = args.length > 0 ? Integer.parseInt(args[0]) : 1500;
        int from = args.length > 1 ? Integer.parseInt(args[1]) : 1;
        int calls = 0;
        for (int run = from; run < from + runs && wrong == 0; run++) {
            ModelTest test = new ModelTest(run);
            if (run % 20 == 0) {
                test.longRound();
            } else {
                test.whole();
            }
            calls += test.calls;
        }
        System.out.println(wrong == 0 ? calls + " calls as the model's" : wrong + " calls not as the model's");
        if (wrong != 0) {
            System.exit(1);
        }
    }
}
