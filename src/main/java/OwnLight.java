import java.util.Arrays;

/** A town of lamps, a lamplighter who may not walk through his own light, and the orders by which all can be lit. */
public final class OwnLight {
    public static final int BAD = -1, FULL = -2, FINDING = -3, STATE = -4, SPENT = -6, NONE = -9;

    private static final int NOTHING = 1, BEYOND = 2, UNLIKE = 3, NOUGHT = 4, SIZE = 5;
    private static final int ROWS = 6, ROW_PLACES = 60, TEXTS = 4, TEXT_PLACES = 80;
    private static final int CELLS = 24, LAMPS = 6, ACTS = 200, KEPT = 3, SIGHTINGS = 8, LIGHTING = 4;
    private static final int LAMP = 0, FAR = 1, CORNER = 2, HOODED = 3, FOGGED = 4, BRIGHT = 5;
    private static final int BLANK = 32, DOOR_SIGN = 68, END = 1000;
    private static final int LOTS_FACTOR = 48271, LOTS_PRIME = 2147483647;

    // Rows by LAMP have eight places and rows by set sixty-four, so that a mask keeps every index inside.
    private static final int LAMP_SLOTS = 8, LAMP_MASK = 7, SETS = 64, SET_MASK = 63, STANDS = 512;
    // Stands for the LAMP lit last where none is.
    private static final int NOBODY = 7;
    // More STEPS than any walk has, and so small that two of them can be added.
    private static final int NEVER = 1 << 20;

    private final Strip[] rows = new Strip[ROWS];
    private final Strip[] texts = new Strip[TEXTS];
    private final Plan plan = new Plan();
    private final Town town = new Town();
    private final Lights lights = new Lights();
    private final Lights trialLights = new Lights();
    private final Round round = new Round();
    private final Stand trial = new Stand();
    private final Stand[] kept = new Stand[KEPT];
    private final Sightings sightings = new Sightings();
    private final Orders orders = new Orders();
    private final Dawn morning = new Dawn();
    private final Told told = new Told();
    private int keptPlaces;
    private int shaded;

    public OwnLight() {
        for (int r = 0; r < ROWS; r++) {
            rows[r] = new Strip(ROW_PLACES);
        }
        for (int t = 0; t < TEXTS; t++) {
            texts[t] = new Strip(TEXT_PLACES);
        }
        for (int k = 0; k < KEPT; k++) {
            kept[k] = new Stand();
        }
    }

    // ---- 1 rows, texts, towns

    public int row(int r, int n) {
        return renewed(rows, r, n, 0);
    }

    public int lay(int r, int i, int v) {
        Strip row = picked(rows, r);
        int refusal = refusalAt(row, i);
        if (row == null || refusal != 0) {
            return refusal;
        }
        int was = row.item(i);
        row.change(i, v);
        return told.besides(was, 1);
    }

    public int at(int r, int i) {
        Strip row = picked(rows, r);
        int refusal = refusalAt(row, i);
        if (row == null || refusal != 0) {
            return refusal;
        }
        return told.besides(row.item(i), 1);
    }

    public int tear(int r) {
        Strip row = picked(rows, r);
        int refusal = refusalOf(row);
        if (row == null || refusal != 0) {
            return refusal;
        }
        row.size = -1;
        return 1;
    }

    public int copy(int r, int i, int to, int j, int n) {
        Strip source = picked(rows, r);
        Strip target = picked(rows, to);
        if (source == null || target == null) {
            return BAD;
        }
        if (n < 0) {
            return told.found(SIZE);
        }
        if (source.size < 0 || target.size < 0) {
            return told.found(NOTHING);
        }
        if (!source.holds(i, n) || !target.holds(j, n)) {
            return told.found(BEYOND);
        }
        System.arraycopy(source.items, i, target.items, j, n);
        return 1;
    }

    public int mean(int r) {
        Strip row = picked(rows, r);
        int refusal = refusalOf(row);
        if (row == null || refusal != 0) {
            return refusal;
        }
        if (row.size == 0) {
            return told.found(NOUGHT);
        }
        return told.besides((int) (row.sum() / row.size), 1);
    }

    public int text(int t, int n) {
        return renewed(texts, t, n, BLANK);
    }

    public int put(int t, int i, int v) {
        Strip text = picked(texts, t);
        int refusal = refusalAt(text, i);
        if (text == null || refusal != 0) {
            return refusal;
        }
        int was = text.item(i);
        text.change(i, (byte) v);
        return was + 1000;
    }

    public int fault(int t) {
        Strip text = picked(texts, t);
        int refusal = refusalOf(text);
        if (text == null || refusal != 0) {
            return refusal;
        }
        return plan.read(text);
    }

    public int town(int t) {
        Strip text = picked(texts, t);
        int refusal = refusalOf(text);
        if (text == null || refusal != 0) {
            return refusal;
        }
        if (plan.read(text) != NONE) {
            return STATE;
        }
        town.build(plan);
        shaded = 0;
        lightsChanged();
        round.beginAt(town.door);
        sightings.size = 0;
        keptPlaces = 0;
        return town.lamps;
    }

    public int cell(int c) {
        if (!isCell(c)) {
            return BAD;
        }
        return told.besides(town.lampIn(c), town.what(c));
    }

    public int lamp(int k, int what) {
        if (!isLamp(k) || what < 0 || what > 4) {
            return BAD;
        }
        return told.besides(ofLamp(k, what), 1);
    }

    public int mark(int k, int kind) {
        if (!isLamp(k) || kind <= LAMP || kind > BRIGHT) {
            return BAD;
        }
        return town.isOfKind(k, kind) ? town.markOf(k, kind) : told.found(UNLIKE);
    }

    public int shines(int k) {
        return isLamp(k) ? lights.of(1 << k) : BAD;
    }

    public int light(int set) {
        if (!isSet(set)) {
            return BAD;
        }
        int bright = lights.of(set);
        return told.besides(Integer.bitCount(bright), bright);
    }

    public int shade(int k, int is) {
        if (!isLamp(k) || is < 0 || is > 1) {
            return BAD;
        }
        if (isIn(round.now.lit, k)) {
            return STATE;
        }
        int was = bit(shaded, k);
        if (was != is) {
            shaded ^= 1 << k;
            lightsChanged();
        }
        return was;
    }

    // ---- 2 a round

    public int begin() {
        if (town.cells == 0) {
            return STATE;
        }
        round.beginAt(town.door);
        return town.door;
    }

    public int may() {
        if (town.cells == 0) {
            return STATE;
        }
        return told.besides(round.now.inside ? 1 : 0, round.now.allowed(town, lights));
    }

    public int act(int what) {
        if (what < 0 || what > LIGHTING) {
            return BAD;
        }
        if (town.cells == 0 || !isIn(round.now.allowed(town, lights), what)) {
            return STATE;
        }
        if (round.done >= ACTS) {
            return FULL;
        }
        round.goOn(town, lights, what);
        return round.now.cell;
    }

    public int where() {
        if (town.cells == 0) {
            return STATE;
        }
        return told.besides(round.done, round.now.cell);
    }

    public int lit() {
        return told.besides(round.now.last, round.now.lit);
    }

    public int undo(int n) {
        if (n < 0 || n > round.done) {
            return BAD;
        }
        int undone = round.done - n;
        round.goBack(town, lights, n);
        return undone;
    }

    public int judge(int r) {
        Strip row = picked(rows, r);
        if (row == null) {
            return BAD;
        }
        if (town.cells == 0) {
            return STATE;
        }
        if (row.size < 0) {
            return told.found(NOTHING);
        }
        if (!row.isWithin(0, LIGHTING)) {
            return told.found(UNLIKE);
        }
        trial.becomeLike(round.now);
        int can = trial.follow(town, lights, row);
        return told.besides(Integer.bitCount(trial.lit), can);
    }

    public int keep(int k) {
        if (k < 0 || k >= KEPT) {
            return BAD;
        }
        if (town.cells == 0) {
            return STATE;
        }
        kept[k].becomeLike(round.now);
        keptPlaces |= 1 << k;
        return round.done;
    }

    public int on(int k) {
        if (k < 0 || k >= KEPT) {
            return BAD;
        }
        if (!isIn(keptPlaces, k)) {
            return told.found(NOTHING);
        }
        round.beginLike(kept[k]);
        return round.now.cell;
    }

    // ---- 3 orders (from a round's beginning; the round stays)

    public int shortest(int r) {
        Strip row = picked(rows, r);
        if (row == null) {
            return BAD;
        }
        if (town.cells == 0) {
            return STATE;
        }
        orders.learn(town, lights);
        int steps = orders.fewestSteps();
        if (steps >= NEVER) {
            return NONE;
        }
        orders.tellShortest(row);
        return steps;
    }

    public int orders() {
        if (town.cells == 0) {
            return STATE;
        }
        orders.learn(town, lights);
        orders.demandNothing();
        return told.fraction(orders.howMany(), 1, 1);
    }

    public int first() {
        if (town.cells == 0) {
            return STATE;
        }
        orders.learn(town, lights);
        return told.besides(orders.lasts(), orders.firsts());
    }

    public int bars(int k) {
        if (!isLamp(k)) {
            return BAD;
        }
        return told.besides(town.barredBy(lights, k), town.barring(lights, k));
    }

    public int rings() {
        int members = 0;
        int smallest = 0;
        for (int k = 0; k < town.lamps; k++) {
            int size = town.ringThrough(lights, k);
            if (size > 0) {
                members |= 1 << k;
                smallest = smallest == 0 ? size : Math.min(smallest, size);
            }
        }
        return told.besides(smallest, members);
    }

    public int dark() {
        if (town.cells == 0) {
            return STATE;
        }
        orders.learn(town, lights);
        int left = orders.fewestDark();
        return told.besides(left, Integer.bitCount(left));
    }

    public int bright() {
        if (town.cells == 0) {
            return STATE;
        }
        orders.learn(town, lights);
        int set = orders.brightest();
        return told.besides(set, Integer.bitCount(lights.of(set)));
    }

    public int shades() {
        if (town.cells == 0) {
            return STATE;
        }
        int all = town.allLamps();
        // Shading only takes light away: where no order comes of shading all, none comes of less.
        if (!canWhenShaded(all)) {
            return NONE;
        }
        int best = all & ~shaded;
        for (int set = 0; set <= all; set++) {
            if ((set & shaded) == 0 && isBefore(set, best) && canWhenShaded(shaded | set)) {
                best = set;
            }
        }
        return told.besides(best, Integer.bitCount(best));
    }

    public int two(int c) {
        if (!isCell(c) || !isIn(town.street, c)) {
            return BAD;
        }
        orders.learn(town, lights);
        int steps = orders.fewestByTwo(c);
        return steps >= NEVER ? NONE : told.besides(orders.firstOnes, steps);
    }

    // ---- 4 thieves, who saw, dawn, lots

    public int thief(int c, int set) {
        if (!isCell(c) || !isSet(set)) {
            return BAD;
        }
        int free = town.darkFrom(1 << c, lights.of(set));
        return told.besides(Integer.bitCount(free), free);
    }

    public int saw(int j, int k) {
        if (!isLamp(j) || !isLamp(k) || j == k) {
            return BAD;
        }
        return sightings.size >= SIGHTINGS ? FULL : sightings.add(j, k);
    }

    public int forget(int n) {
        if (n < 0 || n > sightings.size) {
            return BAD;
        }
        int gone = sightings.size - n;
        sightings.size = n;
        return gone;
    }

    public int fits() {
        if (town.cells == 0) {
            return STATE;
        }
        orders.learn(town, lights);
        orders.demandNothing();
        int all = orders.howMany();
        if (all == 0) {
            return told.found(NOUGHT);
        }
        sightings.demandOf(orders);
        int fitting = orders.howMany();
        return told.fraction(fitting, all, fitting);
    }

    public int sure(int j, int k) {
        if (!isLamp(j) || !isLamp(k) || j == k) {
            return BAD;
        }
        orders.learn(town, lights);
        orders.demandNothing();
        sightings.demandOf(orders);
        int fitting = orders.howMany();
        if (fitting == 0) {
            return told.found(NOUGHT);
        }
        orders.demand(j, k);
        int ahead = orders.howMany();
        return ahead == 0 ? 0 : ahead == fitting ? 1 : 2;
    }

    public int dawn() {
        if (town.lamps == 0) {
            return STATE;
        }
        int steps = morning.fewestSteps(town, lights);
        return steps >= NEVER ? NONE : told.besides(morning.beginsWith, steps);
    }

    public int lots(int n, int seed) {
        if (n < 1 || n > ACTS || seed < 1 || seed >= LOTS_PRIME) {
            return BAD;
        }
        if (town.cells == 0) {
            return STATE;
        }
        trial.beginAt(town.door);
        int done = trial.wander(town, lights, n, seed);
        return told.besides(done, Integer.bitCount(trial.lit));
    }

    // ---- 5 what is told

    public int asked() {
        return told.aside;
    }

    public long upper() {
        return told.above;
    }

    public long lower() {
        return told.below;
    }

    public int count(int what) {
        switch (what) {
            case 0:
                return town.cells;
            case 1:
                return town.lamps;
            case 2:
                return Integer.bitCount(round.now.lit);
            case 3:
                return Integer.bitCount(shaded);
            case 4:
                return town.howManyOfKind(CORNER);
            case 5:
                return town.howManyOfKind(HOODED);
            case 6:
                return howManyThere(rows);
            case 7:
                return howManyThere(texts);
            case 8:
                return sightings.size;
            default:
                return BAD;
        }
    }

    public int finding() {
        return told.latestFinding;
    }

    public int findings(int f) {
        return f < NOTHING || f > SIZE ? BAD : told.findingCounts[f & LAMP_MASK];
    }

    public long digest() {
        long h = 17;
        for (int what = 0; what <= 8; what++) {
            h = mixed(h, count(what));
        }
        for (int c = 0; c < town.cells; c++) {
            h = mixed(h, town.what(c));
        }
        for (int k = 0; k < town.lamps; k++) {
            for (int what = 0; what <= 4; what++) {
                h = mixed(h, ofLamp(k, what));
            }
        }
        h = round.digested(h, town.cells == 0);
        h = sightings.digested(h);
        for (int k = 0; k < KEPT; k++) {
            h = isIn(keptPlaces, k) ? mixed(mixed(h, kept[k].cell), kept[k].lit) : mixed(h, -1);
        }
        for (int r = 0; r < ROWS; r++) {
            h = rows[r].digested(h);
        }
        for (int t = 0; t < TEXTS; t++) {
            h = texts[t].digested(h);
        }
        return h;
    }

    // ---- helpers

    private static long mixed(long h, int v) {
        return 31 * h + v;
    }

    private static boolean isIn(int set, int k) {
        return k >= 0 && k < 32 && (set >>> k & 1) == 1;
    }

    private static int bit(int set, int k) {
        return isIn(set, k) ? 1 : 0;
    }

    /** Of sets that serve alike: the fewer, then the least. */
    private static boolean isBefore(int set, int other) {
        int less = Integer.bitCount(set) - Integer.bitCount(other);
        return less != 0 ? less < 0 : set < other;
    }

    private static Strip picked(Strip[] strips, int number) {
        return number >= 0 && number < strips.length ? strips[number] : null;
    }

    private static int howManyThere(Strip[] strips) {
        int there = 0;
        for (int i = 0; i < strips.length; i++) {
            there += strips[i].size < 0 ? 0 : 1;
        }
        return there;
    }

    private int renewed(Strip[] strips, int number, int n, int item) {
        Strip strip = picked(strips, number);
        if (strip == null || n > strip.items.length) {
            return BAD;
        }
        if (n < 0) {
            return told.found(SIZE);
        }
        strip.renew(n, item);
        return n;
    }

    private int refusalOf(Strip strip) {
        if (strip == null) {
            return BAD;
        }
        return strip.size < 0 ? told.found(NOTHING) : 0;
    }

    private int refusalAt(Strip strip, int place) {
        int refusal = refusalOf(strip);
        if (strip == null || refusal != 0) {
            return refusal;
        }
        return place < 0 || place >= strip.size ? told.found(BEYOND) : 0;
    }

    private boolean isCell(int c) {
        return c >= 0 && c < town.cells;
    }

    private boolean isLamp(int k) {
        return k >= 0 && k < town.lamps;
    }

    private boolean isSet(int set) {
        return (set & ~town.allLamps()) == 0;
    }

    private int ofLamp(int k, int what) {
        switch (what) {
            case 0:
                return town.kinds[k & LAMP_MASK];
            case 1:
                return town.spots[k & LAMP_MASK];
            case 2:
                return town.reaches[k & LAMP_MASK];
            case 3:
                return bit(round.now.lit, k);
            default:
                return bit(shaded, k);
        }
    }

    private void lightsChanged() {
        lights.settle(town, shaded);
        orders.stale = true;
    }

    private boolean canWhenShaded(int set) {
        trialLights.settle(town, set);
        return orders.canLightAll(town, trialLights);
    }

    /** A ROW or a TEXT: its room is made once; size -1 tells that it is missing. */
    private static final class Strip {
        final int[] items;
        int size = -1;

        Strip(int most) {
            items = new int[Math.max(most, 0)];
        }

        void renew(int n, int item) {
            size = Math.min(n, items.length);
            Arrays.fill(items, item);
        }

        int item(int i) {
            return i >= 0 && i < size && i < items.length ? items[i] : END;
        }

        void change(int i, int v) {
            if (i >= 0 && i < size && i < items.length) {
                items[i] = v;
            }
        }

        boolean holds(int from, int n) {
            return from >= 0 && n >= 0 && from <= size && n <= size - from;
        }

        long sum() {
            long all = 0;
            for (int i = 0; i < size; i++) {
                all += item(i);
            }
            return all;
        }

        boolean isWithin(int least, int most) {
            for (int i = 0; i < size; i++) {
                if (item(i) < least || item(i) > most) {
                    return false;
                }
            }
            return true;
        }

        long digested(long before) {
            long h = mixed(before, size);
            for (int i = 0; i < size; i++) {
                h = mixed(h, item(i));
            }
            return h;
        }
    }

    /** Reads a TEXT as a TOWN, as far as it goes. */
    private static final class Plan {
        int width;
        int height;
        int street;
        int door;
        int lamps;
        final int[] kinds = new int[LAMP_SLOTS];
        final int[] spots = new int[LAMP_SLOTS];
        final int[] reaches = new int[LAMP_SLOTS];
        private Strip text;
        private int place;
        private int taken;

        /** The FAULT, or NONE. Wherever reading can't go on, place is where it stopped. */
        int read(Strip from) {
            text = from;
            place = 0;
            boolean whole = readSize() && readCells() && readLamps();
            return whole ? NONE : place;
        }

        private int next() {
            return text == null ? END : text.item(place);
        }

        private void skipBlanks() {
            for (int i = 0; i < TEXT_PLACES && next() == BLANK; i++) {
                place++;
            }
        }

        /** The figure here, if it is one of these; else -1, and place stays. */
        private int figure(int least, int most) {
            int figure = next() - '0';
            if (figure < least || figure > most) {
                return -1;
            }
            place++;
            return figure;
        }

        private boolean readSize() {
            skipBlanks();
            if (next() != 'g') {
                return false;
            }
            place++;
            width = figure(2, 6);
            if (width < 0) {
                return false;
            }
            height = figure(1, 4);
            return height > 0;
        }

        private boolean readCells() {
            street = 0;
            door = NONE;
            for (int c = 0; c < width * height; c++) {
                skipBlanks();
                if (!readCell(c)) {
                    return false;
                }
            }
            return door != NONE;
        }

        private boolean readCell(int c) {
            int sign = next();
            if (sign == DOOR_SIGN && door == NONE) {
                door = c;
            } else if (sign != '.' && sign != '#') {
                return false;
            }
            if (sign != '#') {
                street |= 1 << c;
            }
            place++;
            return true;
        }

        private boolean readLamps() {
            lamps = 0;
            taken = 0;
            for (int i = 0; i <= LAMPS; i++) {
                skipBlanks();
                if (next() == END) {
                    return true;
                }
                if (lamps >= LAMPS || !readLamp(lamps & LAMP_MASK)) {
                    return false;
                }
                lamps++;
            }
            return true;
        }

        private boolean readLamp(int k) {
            kinds[k & LAMP_MASK] = kindOf(next());
            if (kinds[k & LAMP_MASK] < 0) {
                return false;
            }
            place++;
            int x = figure(0, width - 1);
            if (x < 0) {
                return false;
            }
            int spot = readRow(x);
            if (spot < 0) {
                return false;
            }
            spots[k & LAMP_MASK] = spot;
            taken |= 1 << spot;
            reaches[k & LAMP_MASK] = figure(1, 5);
            return reaches[k & LAMP_MASK] > 0;
        }

        /** The CELL of column x by the figure y here; -1 where there is none for a LAMP, and place stays. */
        private int readRow(int x) {
            int y = next() - '0';
            if (y < 0 || y >= height || !isIn(street & ~taken, width * y + x)) {
                return -1;
            }
            place++;
            return width * y + x;
        }

        private static int kindOf(int letter) {
            switch (letter) {
                case 'l':
                    return LAMP;
                case 'f':
                    return FAR;
                case 'c':
                    return CORNER;
                case 'h':
                    return HOODED;
                case 'o':
                    return FOGGED;
                case 'b':
                    return BRIGHT;
                default:
                    return -1;
            }
        }
    }

    /** CELLS and LAMPS. Sets of CELLS are bits, CELL 0 the lowest. */
    private static final class Town {
        private static final int ALL_WAYS = 15, ASIDE = 10;

        int cells;
        int street;
        int door;
        int lamps;
        int lampCells;
        final int[] kinds = new int[LAMP_SLOTS];
        final int[] spots = new int[LAMP_SLOTS];
        final int[] reaches = new int[LAMP_SLOTS];
        final int[] unshaded = new int[LAMP_SLOTS];
        private int width;
        private int leftmost;
        private int rightmost;

        void build(Plan plan) {
            width = plan.width;
            cells = plan.width * plan.height;
            street = plan.street;
            door = plan.door;
            lamps = plan.lamps;
            leftmost = 0;
            for (int y = 0; y < plan.height; y++) {
                leftmost |= 1 << width * y;
            }
            rightmost = leftmost << (width - 1);
            lampCells = 0;
            for (int k = 0; k < lamps && k < LAMPS; k++) {
                kinds[k] = plan.kinds[k];
                spots[k] = plan.spots[k];
                reaches[k] = plan.reaches[k];
                unshaded[k] = lightOf(k);
                lampCells |= spotOf(k);
            }
        }

        int allLamps() {
            return (1 << lamps) - 1;
        }

        int spotOf(int k) {
            return 1 << spots[k & LAMP_MASK];
        }

        int what(int c) {
            if (c == door) {
                return 2;
            }
            return isIn(street, c) ? 0 : 1;
        }

        int lampIn(int c) {
            for (int k = 0; k < lamps; k++) {
                if (spots[k & LAMP_MASK] == c) {
                    return k;
                }
            }
            return NONE;
        }

        boolean isOfKind(int k, int kind) {
            int own = kinds[k & LAMP_MASK];
            switch (kind) {
                case CORNER:
                    return own == CORNER || own == BRIGHT;
                case HOODED:
                    return own == HOODED || own == FOGGED;
                default:
                    return own == kind;
            }
        }

        int howManyOfKind(int kind) {
            int many = 0;
            for (int k = 0; k < lamps; k++) {
                many += isOfKind(k, kind) ? 1 : 0;
            }
            return many;
        }

        /** The streets to which a STEP by a way leads from a set of CELLS. */
        int beside(int set, int way) {
            switch (way) {
                case 0:
                    return set >>> width & street;
                case 1:
                    return (set & ~rightmost) << 1 & street;
                case 2:
                    return set << width & street;
                default:
                    return (set & ~leftmost) >>> 1 & street;
            }
        }

        int cellBeside(int c, int way) {
            switch (way) {
                case 0:
                    return c - width;
                case 1:
                    return c + 1;
                case 2:
                    return c + width;
                default:
                    return c - 1;
            }
        }

        int near(int set) {
            int across = (set & ~rightmost) << 1 | (set & ~leftmost) >>> 1;
            return (set >>> width | set << width | across) & street;
        }

        private int byLines(int from, int ways, int far) {
            int shone = from;
            for (int way = 0; way < 4; way++) {
                int at = isIn(ways, way) ? from : 0;
                for (int i = 0; i < far; i++) {
                    at = beside(at, way);
                    shone |= at;
                }
            }
            return shone;
        }

        private int roundCorners(int from, int far) {
            int shone = from;
            for (int i = 0; i < far; i++) {
                shone |= near(shone);
            }
            return shone;
        }

        private int farOf(int k) {
            int reach = reaches[k & LAMP_MASK];
            switch (kinds[k & LAMP_MASK]) {
                case FAR:
                case BRIGHT:
                    return reach + 1;
                case FOGGED:
                    return reach - 1;
                default:
                    return reach;
            }
        }

        private int lightOf(int k) {
            if (isOfKind(k, CORNER)) {
                return roundCorners(spotOf(k), farOf(k));
            }
            return byLines(spotOf(k), isOfKind(k, HOODED) ? ASIDE : ALL_WAYS, farOf(k));
        }

        int markOf(int k, int kind) {
            int shone = unshaded[k & LAMP_MASK];
            int reach = reaches[k & LAMP_MASK];
            switch (kind) {
                case CORNER:
                    return Integer.bitCount(shone) - Integer.bitCount(byLines(spotOf(k), ALL_WAYS, farOf(k)));
                case HOODED:
                    return Integer.bitCount(byLines(spotOf(k), ALL_WAYS, reach)) - Integer.bitCount(shone);
                case BRIGHT:
                    return Integer.bitCount(shone & lampCells & ~spotOf(k));
                default:
                    return Integer.bitCount(shone);
            }
        }

        /** The LAMPS, but LAMP k, on whose CELLS LAMP k shines. */
        int barring(Lights lights, int k) {
            int set = 0;
            for (int j = 0; j < lamps; j++) {
                set |= j != k && (lights.of(1 << k) & spotOf(j)) != 0 ? 1 << j : 0;
            }
            return set;
        }

        /** The LAMPS, but LAMP k, that shine on the CELL of LAMP k. */
        int barredBy(Lights lights, int k) {
            int set = 0;
            for (int j = 0; j < lamps; j++) {
                set |= j != k && (lights.of(1 << j) & spotOf(k)) != 0 ? 1 << j : 0;
            }
            return set;
        }

        /** How many LAMPS are in the smallest ring with LAMP k; 0: there is none. */
        int ringThrough(Lights lights, int k) {
            int behind = 1 << k;
            for (int size = 1; size <= lamps; size++) {
                int ahead = 0;
                for (int j = 0; j < lamps; j++) {
                    ahead |= isIn(behind, j) ? barring(lights, j) : 0;
                }
                if (isIn(ahead, k)) {
                    return size;
                }
                behind = ahead;
            }
            return 0;
        }

        int darkFrom(int from, int bright) {
            int free = from & street & ~bright;
            for (int i = 0; i < CELLS; i++) {
                free |= near(free) & ~bright;
            }
            return free;
        }
    }

    /** The CELLS in the light of each set of LAMPS, some of them SHADED. */
    private static final class Lights {
        private final int[] joint = new int[SETS];

        void settle(Town town, int shaded) {
            for (int k = 0; k < LAMPS; k++) {
                int own = k >= town.lamps ? 0 : isIn(shaded, k) ? town.spotOf(k) : town.unshaded[k];
                for (int set = 0; set < 1 << k; set++) {
                    joint[(set | 1 << k) & SET_MASK] = joint[set & SET_MASK] | own;
                }
            }
        }

        int of(int set) {
            return joint[set & SET_MASK];
        }
    }

    /** Where the lamplighter stands in a ROUND, and what he has lit. */
    private static final class Stand {
        int cell;
        int lit;
        int last = NONE;
        boolean inside;

        void beginAt(int door) {
            cell = door;
            lit = 0;
            last = NONE;
            inside = false;
        }

        void becomeLike(Stand other) {
            cell = other.cell;
            lit = other.lit;
            last = other.last;
            inside = other.inside;
        }

        /** What he may do, by bits 0 .. 4. */
        int allowed(Town town, Lights lights) {
            int barred = lights.of(inside ? lit & ~(1 << last) : lit);
            int may = 0;
            for (int way = 0; way < LIGHTING; way++) {
                may |= (town.beside(1 << cell, way) & ~barred) != 0 ? 1 << way : 0;
            }
            boolean shoneOn = (lights.of(lit) >>> cell & 1) == 1;
            return shoneOn || town.lampIn(cell) == NONE ? may : may | 1 << LIGHTING;
        }

        /** Does what he may do. */
        void carryOut(Town town, Lights lights, int what) {
            if (what == LIGHTING) {
                last = town.lampIn(cell);
                lit |= 1 << last;
                inside = true;
            } else {
                cell = town.cellBeside(cell, what);
                inside = inside && (lights.of(1 << last) >>> cell & 1) == 1;
            }
        }

        /** Does what a ROW tells, as far as he may: how many of it. */
        int follow(Town town, Lights lights, Strip row) {
            for (int i = 0; i < row.size; i++) {
                if (!isIn(allowed(town, lights), row.item(i))) {
                    return i;
                }
                carryOut(town, lights, row.item(i));
            }
            return row.size;
        }

        /** Does n times at most what the lots tell: how often. */
        int wander(Town town, Lights lights, int n, int seed) {
            long lot = seed;
            for (int i = 0; i < n; i++) {
                int may = allowed(town, lights);
                int choices = Integer.bitCount(may);
                if (choices == 0) {
                    return i;
                }
                lot = lot * LOTS_FACTOR % LOTS_PRIME;
                carryOut(town, lights, choice(may, (int) (lot % choices)));
            }
            return n;
        }

        private static int choice(int may, int number) {
            int rest = may;
            for (int i = 0; i < number; i++) {
                rest &= rest - 1;
            }
            return Integer.bitCount((rest & -rest) - 1);
        }
    }

    /** The ROUND that goes on: where it began, what was done since, and how it stands now. */
    private static final class Round {
        final Stand now = new Stand();
        int done;
        private final Stand start = new Stand();
        private final int[] acts = new int[ACTS];

        void beginAt(int door) {
            start.beginAt(door);
            beginLike(start);
        }

        void beginLike(Stand stand) {
            start.becomeLike(stand);
            now.becomeLike(stand);
            done = 0;
        }

        void goOn(Town town, Lights lights, int what) {
            if (done >= 0 && done < ACTS) {
                acts[done] = what;
                done++;
                now.carryOut(town, lights, what);
            }
        }

        void goBack(Town town, Lights lights, int n) {
            now.becomeLike(start);
            done = Math.min(n, ACTS);
            // What is lit can't be SHADED meanwhile, so all comes about again as it did.
            for (int i = 0; i < done; i++) {
                now.carryOut(town, lights, acts[i]);
            }
        }

        long digested(long before, boolean nowhere) {
            long h = mixed(before, nowhere ? NONE : now.cell);
            h = mixed(h, now.inside ? 1 : 0);
            h = mixed(h, now.last);
            h = mixed(h, done);
            for (int i = 0; i < done && i < ACTS; i++) {
                h = mixed(h, acts[i]);
            }
            return h;
        }
    }

    /** What was SEEN: pairs of LAMPS, the first lit ahead of the second. */
    private static final class Sightings {
        int size;
        private final int[] ahead = new int[SIGHTINGS];
        private final int[] behind = new int[SIGHTINGS];

        int add(int j, int k) {
            int number = size & LAMP_MASK;
            ahead[number] = j;
            behind[number] = k;
            size = number + 1;
            return number;
        }

        void demandOf(Orders orders) {
            for (int i = 0; i < size && i < SIGHTINGS; i++) {
                orders.demand(ahead[i], behind[i]);
            }
        }

        long digested(long before) {
            long h = before;
            for (int i = 0; i < size && i < SIGHTINGS; i++) {
                h = mixed(mixed(h, ahead[i]), behind[i]);
            }
            return h;
        }
    }

    /**
     * What ORDERS there are. How he can go on depends on the set of lit LAMPS and the one lit last alone: he stands in
     * its CELL then. So all is counted over such pairs, not over each ORDER.
     */
    private static final class Orders {
        int firstOnes;
        boolean stale = true;
        private Town town;
        private int lamps;
        private int all;
        private Lights lights;
        private final int[] paces = new int[LAMP_SLOTS];
        private final int[] gaps = new int[STANDS * LAMP_SLOTS];
        private final int[] stepsSince = new int[STANDS];
        private final int[] stepsTill = new int[STANDS];
        private final int[] fewestFor = new int[SETS];
        private final int[] ways = new int[STANDS];
        private final int[] demanded = new int[LAMP_SLOTS];
        private final int[] ends = new int[SETS];

        private static int key(int set, int last) {
            return (set & SET_MASK) * LAMP_SLOTS + (last & LAMP_MASK);
        }

        private static int gapKey(int set, int last, int next) {
            return key(set, last) * LAMP_SLOTS + (next & LAMP_MASK);
        }

        private int gap(int set, int last, int next) {
            return gaps[gapKey(set, last, next)];
        }

        private static int sum(int steps, int more) {
            return Math.min(steps + more, NEVER);
        }

        /** Made once for a TOWN with its lights, as most calls ask for the same again. */
        void learn(Town inTown, Lights byLights) {
            if (!stale) {
                return;
            }
            stale = false;
            town = inTown;
            lights = byLights;
            lamps = inTown.lamps;
            all = inTown.allLamps();
            learnGaps();
            learnStepsSince();
            learnStepsTill();
        }

        private void learnGaps() {
            Arrays.fill(gaps, NEVER);
            for (int set = 0; set <= all; set++) {
                for (int last = 0; last <= NOBODY; last++) {
                    if (set == 0 ? last == NOBODY : isIn(set, last)) {
                        paceOn(town, lights, set, last);
                        System.arraycopy(paces, 0, gaps, gapKey(set, last, 0), LAMP_SLOTS);
                    }
                }
            }
        }

        private void learnStepsSince() {
            Arrays.fill(stepsSince, NEVER);
            stepsSince[key(0, NOBODY)] = 0;
            for (int set = 0; set <= all; set++) {
                int fewest = NEVER;
                for (int last = 0; last <= NOBODY; last++) {
                    int steps = stepsSince[key(set, last)];
                    fewest = Math.min(fewest, steps);
                    for (int next = 0; next < lamps && steps < NEVER; next++) {
                        int then = key(set | 1 << next, next);
                        stepsSince[then] = Math.min(stepsSince[then], sum(steps, gap(set, last, next)));
                    }
                }
                fewestFor[set & SET_MASK] = fewest;
            }
        }

        private void learnStepsTill() {
            Arrays.fill(stepsTill, 0);
            for (int set = all - 1; set >= 0; set--) {
                for (int last = 0; last <= NOBODY; last++) {
                    int fewest = NEVER;
                    for (int next = 0; next < lamps; next++) {
                        fewest = Math.min(fewest, stepsBy(set, last, next));
                    }
                    stepsTill[key(set, last)] = fewest;
                }
            }
        }

        private int stepsBy(int set, int last, int next) {
            int gap = gap(set, last, next);
            return gap >= NEVER ? NEVER : sum(gap, stepsTill[key(set | 1 << next, next)]);
        }

        /** The STEPS from the CELL of the LAMP lit last (the DOOR, if none is) to each that is not lit. */
        private void paceOn(Town inTown, Lights byLights, int set, int last) {
            if (set == 0) {
                paceOut(inTown, 1 << inTown.door, 0, 0);
            } else {
                int own = byLights.of(1 << last);
                paceOut(inTown, inTown.spotOf(last), own, byLights.of(set & ~(1 << last)));
            }
        }

        /** He may leave the light that is his own once; all CELLS in it are reached from inside alone. */
        private void paceOut(Town inTown, int from, int own, int barred) {
            Arrays.fill(paces, NEVER);
            int wanted = inTown.lampCells & ~own & ~barred;
            int inside = from & own;
            int outside = from & ~own;
            int seen = from;
            for (int steps = 0; steps <= CELLS && wanted != 0 && (inside | outside) != 0; steps++) {
                if ((outside & wanted) != 0) {
                    notePaces(inTown, outside & wanted, steps);
                    wanted &= ~outside;
                }
                int fresh = ~barred & ~seen;
                int fromInside = inTown.near(inside) & fresh;
                outside = (fromInside | inTown.near(outside) & fresh) & ~own;
                inside = fromInside & own;
                seen |= inside | outside;
            }
        }

        private void notePaces(Town inTown, int reached, int steps) {
            for (int k = 0; k < inTown.lamps; k++) {
                if ((inTown.spotOf(k) & reached) != 0) {
                    paces[k & LAMP_MASK] = steps;
                }
            }
        }

        /** Whether there is an ORDER of all LAMPS by other lights than those that were learnt. */
        boolean canLightAll(Town inTown, Lights byLights) {
            int whole = inTown.allLamps();
            Arrays.fill(ends, 0);
            ends[0] = 1 << NOBODY;
            for (int set = 0; set < whole; set++) {
                for (int last = 0; last <= NOBODY; last++) {
                    if (isIn(ends[set & SET_MASK], last)) {
                        paceOn(inTown, byLights, set, last);
                        addEnds(inTown.lamps, set);
                    }
                }
            }
            return ends[whole & SET_MASK] != 0;
        }

        private void addEnds(int many, int set) {
            for (int next = 0; next < many; next++) {
                if (paces[next & LAMP_MASK] < NEVER) {
                    ends[(set | 1 << next) & SET_MASK] |= 1 << next;
                }
            }
        }

        int fewestSteps() {
            return stepsTill[key(0, NOBODY)];
        }

        /** Taking the least LAMP that still leads to the fewest STEPS gives the first such ORDER. */
        void tellShortest(Strip row) {
            row.renew(lamps, 0);
            int set = 0;
            int last = NOBODY;
            for (int i = 0; i < lamps; i++) {
                int next = 0;
                while (next < lamps - 1 && stepsBy(set, last, next) != stepsTill[key(set, last)]) {
                    next++;
                }
                row.change(i, next);
                set |= 1 << next;
                last = next;
            }
        }

        void demandNothing() {
            Arrays.fill(demanded, 0);
        }

        void demand(int ahead, int behind) {
            demanded[behind & LAMP_MASK] |= 1 << ahead;
        }

        /** How many ORDERS of all LAMPS there are in which all that is demanded holds. */
        int howMany() {
            Arrays.fill(ways, 0);
            ways[key(0, NOBODY)] = 1;
            for (int set = 0; set < all; set++) {
                for (int last = 0; last <= NOBODY; last++) {
                    addWays(set, last);
                }
            }
            int many = 0;
            for (int last = 0; last <= NOBODY; last++) {
                many += ways[key(all, last)];
            }
            return many;
        }

        private void addWays(int set, int last) {
            int many = ways[key(set, last)];
            for (int next = 0; next < lamps && many > 0; next++) {
                boolean fits = (demanded[next & LAMP_MASK] & ~set) == 0;
                if (fits && gap(set, last, next) < NEVER) {
                    ways[key(set | 1 << next, next)] += many;
                }
            }
        }

        int firsts() {
            int set = 0;
            for (int k = 0; k < lamps; k++) {
                set |= stepsBy(0, NOBODY, k) < NEVER ? 1 << k : 0;
            }
            return set;
        }

        int lasts() {
            int set = 0;
            for (int k = 0; k < lamps; k++) {
                set |= stepsSince[key(all, k)] < NEVER ? 1 << k : 0;
            }
            return set;
        }

        int fewestDark() {
            int best = all;
            for (int left = 0; left <= all; left++) {
                if (fewestFor[all & ~left & SET_MASK] < NEVER && isBefore(left, best)) {
                    best = left;
                }
            }
            return best;
        }

        int brightest() {
            int best = 0;
            int most = 0;
            for (int set = 0; set <= all; set++) {
                int bright = fewestFor[set & SET_MASK] < NEVER ? Integer.bitCount(lights.of(set)) : -1;
                if (bright > most || bright == most && isBefore(set, best)) {
                    best = set;
                    most = bright;
                }
            }
            return best;
        }

        /** The fewest STEPS of two lamplighters, the second one from a CELL; firstOnes: what the first one lights. */
        int fewestByTwo(int cell) {
            int fewest = NEVER;
            firstOnes = 0;
            for (int set = 0; set <= all; set++) {
                int steps = fewestFor[set & SET_MASK];
                if (steps < NEVER) {
                    steps = sum(steps, fewestBySecond(cell, set));
                }
                if (steps < fewest || steps == fewest && steps < NEVER && isBefore(set, firstOnes)) {
                    fewest = steps;
                    firstOnes = set;
                }
            }
            return fewest;
        }

        private int fewestBySecond(int cell, int litByFirst) {
            if (litByFirst == all) {
                return 0;
            }
            int barred = lights.of(litByFirst);
            if (isIn(barred, cell)) {
                return NEVER;
            }
            paceOut(town, 1 << cell, 0, barred);
            int fewest = NEVER;
            for (int next = 0; next < lamps; next++) {
                int pace = paces[next & LAMP_MASK];
                int rest = stepsTill[key(litByFirst | 1 << next, next)];
                fewest = pace < NEVER ? Math.min(fewest, sum(pace, rest)) : fewest;
            }
            return fewest;
        }
    }

    /** Putting out at dawn: what comes still depends on the LAMPS that are not put out and the one put out last. */
    private static final class Dawn {
        int beginsWith;
        private final int[] stepsTill = new int[STANDS];

        private static int key(int burning, int last) {
            return (burning & SET_MASK) * LAMP_SLOTS + (last & LAMP_MASK);
        }

        int fewestSteps(Town town, Lights lights) {
            int all = town.allLamps();
            Arrays.fill(stepsTill, 0);
            for (int burning = 1; burning < all; burning++) {
                for (int last = 0; last < town.lamps; last++) {
                    if (!isIn(burning, last)) {
                        stepsTill[key(burning, last)] = stepsFrom(town, lights, burning, last);
                    }
                }
            }
            int fewest = NEVER;
            for (int k = 0; k < town.lamps; k++) {
                int steps = stepsTill[key(all & ~(1 << k), k)];
                if (steps < fewest) {
                    fewest = steps;
                    beginsWith = k;
                }
            }
            return fewest;
        }

        /** Fading: where he has not left the light of the LAMP put out last; bright: where only the others' counts. */
        private int stepsFrom(Town town, Lights lights, int burning, int last) {
            int own = lights.of(1 << last);
            int others = lights.of(burning);
            int fading = town.spotOf(last);
            int bright = 0;
            int seenFading = fading;
            int seenBright = 0;
            int fewest = NEVER;
            for (int steps = 0; steps <= 2 * CELLS && (fading | bright) != 0; steps++) {
                fewest = Math.min(fewest, stepsBy(town, burning, fading | bright, steps));
                int fromFading = town.near(fading);
                int fromBright = town.near(bright);
                fading = fromFading & own & ~seenFading;
                bright = (fromFading & ~own | fromBright) & others & ~seenBright;
                seenFading |= fading;
                seenBright |= bright;
            }
            return fewest;
        }

        private int stepsBy(Town town, int burning, int reached, int steps) {
            int fewest = NEVER;
            for (int next = 0; next < town.lamps; next++) {
                if (isIn(burning, next) && (town.spotOf(next) & reached) != 0) {
                    fewest = Math.min(fewest, steps + stepsTill[key(burning & ~(1 << next), next)]);
                }
            }
            return fewest;
        }
    }

    /** What is told beside the answers. */
    private static final class Told {
        int aside;
        long above;
        long below = 1;
        int latestFinding;
        final int[] findingCounts = new int[LAMP_SLOTS];

        int besides(int value, int answer) {
            aside = value;
            return answer;
        }

        int found(int finding) {
            latestFinding = finding;
            findingCounts[finding & LAMP_MASK]++;
            return FINDING;
        }

        int fraction(int upperNumber, int lowerNumber, int answer) {
            int divisor = Math.max(1, commonDivisor(upperNumber, lowerNumber));
            above = upperNumber / divisor;
            below = lowerNumber / divisor;
            return answer;
        }

        private static int commonDivisor(int a, int b) {
            int greater = a;
            int less = b;
            for (int i = 0; i < 64 && less != 0; i++) {
                int rest = greater % less;
                greater = less;
                less = rest;
            }
            return greater;
        }
    }
}
