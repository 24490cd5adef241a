/** A pot that cooks porridge till it is told the word, in a town of six by six cells. */
public final class LittlePot {
    public static final int BAD = -1000000001, NO = -1000000002, FULL = -1000000003,
            NONE = -1000000005, NOTHING = -1000000011, KIND = -1000000012,
            INDEX = -1000000013, SIZE = -1000000014;

    private static final int CELLS = 36, EATERS = 8, LAST_MINUTE = 9999;
    private static final int WORD = 0, BOIL = 1, THICK = 2, MICE = 3;
    private static final int SHEETS = 4, MOST_PLACES = 24, FLOAT_MOST = 99999;
    private static final int SLOTS = 5, HOLDS_EATER = 1, HOLDS_SHEET = 2, HOLDS_NUMBER = 3;
    private static final int MOST_TAPE = 96, MOST_WAITING = 60, LONGEST_LOOK = 200;
    private static final int WALLED_BY = 5, BOILED_BY = 5, ABOVE_ALL = 2147483647;

    private static final int[] RULE_MOST = {9, 99, 9, 100};
    private static final int[] LAID_MOST = {20, 20, 999};

    private final Laws laws = new Laws();
    private final Town now = new Town(laws);
    private final Town image = new Town(laws);
    private final Town thought = new Town(laws);
    private final Town trunk = new Town(laws);
    private final Reader reader = new Reader();
    private final Ways ways = new Ways();
    private final Sheet[] sheets = new Sheet[SHEETS];
    private final Slot[] slots = new Slot[SLOTS];
    private final int[] waiting = new int[MOST_WAITING];
    private boolean kept;
    private int waits;

    public LittlePot() {
        for (int i = 0; i < SHEETS; i++) {
            sheets[i] = new Sheet();
        }
        for (int i = 0; i < SLOTS; i++) {
            slots[i] = new Slot();
        }
    }

    // ---- the town, eaters

    public int eater(int kind, int cell) {
        if (!Kinds.isKind(kind) || !isCell(cell)) {
            return BAD;
        }
        return now.eaters < EATERS ? now.comes(kind, cell) : FULL;
    }

    public int told(int eater, int what) {
        if (!now.hasEater(eater)) {
            return BAD;
        }
        int kind = now.kinds[eater];
        switch (what) {
            case 0: return kind;
            case 1: return now.places[eater];
            case 2: return now.ates[eater];
            case 3: return Kinds.eats(kind, now.parts[now.places[eater]]);
            case 4: return Kinds.wades(kind);
            case 5: return Kinds.worth(kind, now.ates[eater]);
            default: return BAD;
        }
    }

    public int cell(int cell, int what) {
        if (!isCell(cell) || !within(what, 0, 3)) {
            return BAD;
        }
        return what == 3 ? now.level(cell) : now.laid(what)[cell];
    }

    public int lays(int cell, int what, int v) {
        if (!isCell(cell) || !within(what, 0, 2) || !within(v, 0, LAID_MOST[what])) {
            return BAD;
        }
        int[] row = now.laid(what);
        int was = row[cell];
        row[cell] = v;
        return was;
    }

    public int as(int eater, int kind) {
        if (!now.hasEater(eater) || !Kinds.isKind(kind)) {
            return BAD;
        }
        return Kinds.isUnder(now.kinds[eater], kind) ? now.ates[eater] : KIND;
    }

    public int turns(int eater, int kind) {
        if (!now.hasEater(eater) || !Kinds.isKind(kind)) {
            return BAD;
        }
        int was = now.kinds[eater];
        now.kinds[eater] = kind;
        return was;
    }

    public int sends(int eater, int cell) {
        if (!now.hasEater(eater) || !isCell(cell)) {
            return BAD;
        }
        int was = now.places[eater];
        now.places[eater] = cell;
        return was;
    }

    public int cook(int cell) {
        if (!isCell(cell)) {
            return BAD;
        }
        int was = now.pot;
        now.pot = cell;
        now.cooks = true;
        return was;
    }

    public int say(int word) {
        if (!within(word, 0, 9)) {
            return BAD;
        }
        if (!now.cooks) {
            return NO;
        }
        int[] rules = now.rules;
        if (word == rules[WORD]) {
            now.cooks = false;
            return 0;
        }
        if (word == (rules[WORD] + 1) % 10) {
            rules[THICK] = Math.min(RULE_MOST[THICK], rules[THICK] + 1);
            return 1;
        }
        if (word == (rules[WORD] + 9) % 10) {
            rules[BOIL] = Math.min(RULE_MOST[BOIL], rules[BOIL] + BOILED_BY);
            return 2;
        }
        return 3;
    }

    public int rule(int what, int v) {
        if (!within(what, WORD, MICE) || !within(v, 0, RULE_MOST[what])) {
            return BAD;
        }
        int was = now.rules[what];
        now.rules[what] = v;
        return was;
    }

    public int deal(int n) {
        if (!within(n, 1, EATERS)) {
            return BAD;
        }
        int come = Math.min(n, EATERS - now.eaters);
        for (int i = 0; i < come; i++) {
            int kind = now.draw() % Kinds.MANY;
            now.comes(kind, now.draw() % CELLS);
        }
        return come;
    }

    public int seed(int v) {
        int was = now.z;
        now.z = v;
        return was;
    }

    // ---- minutes, ways

    public int minutes(int n) {
        if (!within(n, 1, 60)) {
            return BAD;
        }
        int ahead = now.allAte();
        now.passes(Math.min(n, LAST_MINUTE - now.minute));
        return now.allAte() - ahead;
    }

    public int town(int what) {
        switch (what) {
            case 0: return now.allParts();
            case 1: return now.allAte();
            case 2: return now.wetCells();
            case 3: return now.pours();
            case 4: return now.pot;
            case 5: return now.cooks ? 1 : 0;
            default: return BAD;
        }
    }

    public int path(int from, int to, int parts) {
        if (!isCell(from) || !isCell(to) || !within(parts, 0, 9999)) {
            return BAD;
        }
        return ways.fewest(now.parts, from, to, parts);
    }

    // ---- what will be

    public int behind(int n, int what) {
        if (!within(n, 0, 60) || !within(what, 0, 1 + CELLS)) {
            return BAD;
        }
        thought.becomes(now);
        thought.passes(n);
        if (what == 0) {
            return thought.allParts();
        }
        return what == 1 ? thought.allAte() : thought.parts[what - 2];
    }

    public int wets(int cell) {
        if (!isCell(cell)) {
            return BAD;
        }
        thought.becomes(now);
        for (int k = 0; k < LONGEST_LOOK; k++) {
            if (thought.parts[cell] > 0) {
                return k;
            }
            thought.pass();
        }
        return thought.parts[cell] > 0 ? LONGEST_LOOK : NONE;
    }

    public int deepest(int n, int what) {
        if (!within(n, 0, 60) || !within(what, 0, 1)) {
            return BAD;
        }
        thought.becomes(now);
        thought.passes(n);
        int deepest = 0;
        for (int c = 1; c < CELLS; c++) {
            if (thought.parts[c] > thought.parts[deepest]) {
                deepest = c;
            }
        }
        return what == 0 ? deepest : thought.parts[deepest];
    }

    public int walled(int cell, int n, int what) {
        if (!isCell(cell) || !within(n, 1, 20) || !within(what, 0, 1)) {
            return BAD;
        }
        int best = 0;
        int least = ABOVE_ALL;
        for (int c = 0; c < CELLS; c++) {
            thought.becomes(now);
            thought.walls[c] += WALLED_BY;
            thought.passes(n);
            if (thought.parts[cell] < least) {
                best = c;
                least = thought.parts[cell];
            }
        }
        return what == 0 ? best : least;
    }

    public int enough(int cell, int n) {
        if (!isCell(cell) || !within(n, 0, 40)) {
            return BAD;
        }
        int greatest = NONE;
        trunk.becomes(now);
        for (int k = 0; k <= n; k++) {
            thought.becomes(trunk);
            thought.cooks = false;
            thought.passes(n - k);
            if (thought.parts[cell] == 0) {
                greatest = k;
            }
            trunk.pass();
        }
        return greatest;
    }

    public int stood(int sheet, int n, int what) {
        if (!isSheet(sheet) || !within(n, 0, 20) || !within(what, 0, 1)) {
            return BAD;
        }
        if (sheets[sheet].isMissing()) {
            return NOTHING;
        }
        int best = 0;
        int least = ABOVE_ALL;
        for (int c = 0; c < CELLS; c++) {
            thought.becomes(now);
            thought.pot = c;
            thought.cooks = true;
            thought.passes(n);
            int differs = sheets[sheet].differsFrom(thought.parts);
            if (differs < least) {
                best = c;
                least = differs;
            }
        }
        return what == 0 ? best : least;
    }

    public int fee() {
        int all = now.allAte();
        Text law = laws.counting(Laws.FEE, now.texts);
        return law == null ? all : laws.given(law, all, now.allParts(), 0);
    }

    public int fine(int eater) {
        if (!now.hasEater(eater)) {
            return BAD;
        }
        int ate = now.ates[eater];
        Text law = laws.counting(Laws.FINE, now.texts);
        return law == null ? ate : laws.given(law, ate, now.places[eater], 0);
    }

    // ---- texts

    public int feed(int a, int b, int c) {
        if (reader.length + 12 > MOST_TAPE) {
            return FULL;
        }
        reader.getsNumber(a);
        reader.getsNumber(b);
        reader.getsNumber(c);
        return reader.length;
    }

    public int trim(int n) {
        if (!within(n, 0, reader.length)) {
            return BAD;
        }
        reader.length = n;
        return n;
    }

    public int text() {
        int fault = reader.findsFault();
        reader.length = 0;
        if (fault >= 0) {
            return -100 - fault;
        }
        if (now.texts >= Laws.MOST) {
            return FULL;
        }
        reader.draft = laws.takes(now.texts, reader.draft);
        now.texts++;
        return now.texts - 1;
    }

    public int textTold(int text, int what) {
        Text law = within(text, 0, now.texts - 1) ? laws.numbered(text) : null;
        if (law == null || !within(what, 0, 1)) {
            return BAD;
        }
        return what == 0 ? law.key : law.leaves;
    }

    public int why(int key) {
        if (!within(key, Laws.BOILS, Laws.FINE)) {
            return BAD;
        }
        int number = laws.last(key, now.texts);
        return number < 0 ? NONE : number;
    }

    // ---- sheets, slots

    public int sheet(int sheet, int sort, int n) {
        if (!isSheet(sheet) || !within(sort, Sheet.MISSING, Sheet.FLOATS)) {
            return BAD;
        }
        if (sort == Sheet.MISSING) {
            sheets[sheet].becomes(sort, 0);
            return 0;
        }
        if (n > MOST_PLACES) {
            return BAD;
        }
        if (n < 0) {
            return SIZE;
        }
        sheets[sheet].becomes(sort, n);
        return n;
    }

    public int mark(int sheet, int place, int v) {
        if (!isSheet(sheet)) {
            return BAD;
        }
        Sheet row = sheets[sheet];
        if (row.isMissing()) {
            return NOTHING;
        }
        if (!row.hasPlace(place)) {
            return INDEX;
        }
        if (row.sort == Sheet.SHORTS) {
            if (v == NONE) {
                return KIND;
            }
            row.places[place] = (short) v;
            return 1;
        }
        if (v != Sheet.NO_NUMBER && !within(v, -FLOAT_MOST, FLOAT_MOST)) {
            return BAD;
        }
        row.places[place] = v;
        return 1;
    }

    public int pour(int sheet) {
        if (!isSheet(sheet)) {
            return BAD;
        }
        return sheets[sheet].isMissing() ? NOTHING : sheets[sheet].poursInto(now.heights);
    }

    public int reads(int sheet) {
        if (!isSheet(sheet)) {
            return BAD;
        }
        return sheets[sheet].isMissing() ? NOTHING : sheets[sheet].firstUnlike(now.parts);
    }

    public int copy(int from, int place, int to, int at, int many) {
        if (!isSheet(from) || !isSheet(to)) {
            return BAD;
        }
        Sheet source = sheets[from];
        Sheet target = sheets[to];
        if (source.isMissing() || target.isMissing()) {
            return NOTHING;
        }
        if (source.sort != target.sort) {
            return KIND;
        }
        if (!source.hasPlaces(place, many) || !target.hasPlaces(at, many)) {
            return INDEX;
        }
        System.arraycopy(source.places, place, target.places, at, many);
        return many;
    }

    public int lay(int slot, int thing, int k) {
        if (!isSlot(slot) || !within(thing, 0, HOLDS_NUMBER)
                || thing == HOLDS_EATER && !now.hasEater(k)
                || thing == HOLDS_SHEET && !isSheet(k)) {
            return BAD;
        }
        if (thing == HOLDS_SHEET && sheets[k].isMissing()) {
            return NOTHING;
        }
        Slot into = slots[slot];
        int held = into.thing;
        into.thing = thing;
        if (thing == HOLDS_EATER) {
            into.kind = now.kinds[k];
            into.ate = now.ates[k];
        } else if (thing == HOLDS_SHEET) {
            into.row.becomes(sheets[k]);
        } else if (thing == HOLDS_NUMBER) {
            into.number = k;
        }
        return held;
    }

    public int ask(int slot, int kind) {
        if (!Kinds.isKind(kind)) {
            return BAD;
        }
        int refusal = unlessHeld(slot, HOLDS_EATER);
        if (refusal != 0) {
            return refusal;
        }
        Slot held = slots[slot];
        return Kinds.isUnder(held.kind, kind) ? Kinds.worth(held.kind, held.ate) : KIND;
    }

    public int item(int slot, int place) {
        int refusal = unlessHeld(slot, HOLDS_SHEET);
        if (refusal != 0) {
            return refusal;
        }
        Sheet row = slots[slot].row;
        if (!row.hasPlace(place)) {
            return INDEX;
        }
        return row.isNumber(place) ? row.places[place] : KIND;
    }

    public int rest(int slot, int n) {
        int refusal = unlessHeld(slot, HOLDS_NUMBER);
        if (refusal != 0) {
            return refusal;
        }
        return n == 0 ? NO : slots[slot].number % n;
    }

    // ---- rows, images

    public int tell(int v) {
        if (waits >= MOST_WAITING) {
            return FULL;
        }
        waiting[waits] = v;
        waits++;
        return waits;
    }

    public int check(int n) {
        int many = waits;
        waits = 0;
        if (!within(n, 1, 30)) {
            return BAD;
        }
        if (!kept) {
            return NO;
        }
        int told = Math.min(n, LAST_MINUTE - image.minute);
        thought.becomes(image);
        for (int i = 0; i < told; i++) {
            thought.pass();
            if (!waited(many, 2 * i, thought.allParts())) {
                return 1 + 2 * i;
            }
            if (!waited(many, 2 * i + 1, thought.allAte())) {
                return 2 + 2 * i;
            }
        }
        return many > 2 * told ? 1 + 2 * told : 0;
    }

    public int keep() {
        image.becomes(now);
        kept = true;
        return now.eaters;
    }

    public int back() {
        if (!kept) {
            return NO;
        }
        now.becomes(image);
        return now.eaters;
    }

    public int count(int what) {
        if (within(what, 2, 5)) {
            return now.rules[what - 2];
        }
        switch (what) {
            case 0: return now.eaters;
            case 1: return now.minute;
            case 6: return now.texts;
            case 7: return waits;
            case 8: return reader.length;
            case 9: return now.z;
            default: return BAD;
        }
    }

    private static boolean within(int v, int least, int most) {
        return v >= least && v <= most;
    }

    private static boolean isCell(int c) {
        return within(c, 0, CELLS - 1);
    }

    private static boolean isSheet(int s) {
        return within(s, 0, SHEETS - 1);
    }

    private static boolean isSlot(int s) {
        return within(s, 0, SLOTS - 1);
    }

    /** 0 if the slot holds such a thing, else what refuses it. */
    private int unlessHeld(int slot, int thing) {
        if (!isSlot(slot)) {
            return BAD;
        }
        if (slots[slot].thing == 0) {
            return NOTHING;
        }
        return slots[slot].thing == thing ? 0 : KIND;
    }

    private boolean waited(int many, int place, int v) {
        return place < many && place < MOST_WAITING && waiting[place] == v;
    }

    /** What the kinds of eaters do; a kind that is not named here does as the one above it. */
    private static final class Kinds {
        static final int EATER = 0, GLUTTON = 1, CHILD = 2, GIANT = 3, BABY = 4, DOG = 5, MANY = 6;

        private static final int[] ABOVE = {-1, EATER, EATER, GLUTTON, CHILD, EATER};
        private static final int EATER_EATS = 3, GLUTTON_EATS = 8, CHILD_EATS = 1;
        private static final int EATER_WADES = 99, CHILD_WADES = 30, DOG_WADES = 60;
        private static final int BABY_FEARS = 50, DOG_WORTH = 5;

        static boolean isKind(int kind) {
            return within(kind, 0, MANY - 1);
        }

        static boolean isUnder(int kind, int other) {
            int k = kind;
            for (int i = 0; i < MANY && isKind(k); i++) {
                if (k == other) {
                    return true;
                }
                k = ABOVE[k];
            }
            return false;
        }

        static int eats(int kind, int parts) {
            switch (kind) {
                case GLUTTON: return GLUTTON_EATS;
                case GIANT: return 2 * GLUTTON_EATS;
                case CHILD: return CHILD_EATS;
                case BABY: return parts > BABY_FEARS ? 0 : CHILD_EATS;
                case DOG: return EATER_EATS + 1;
                default: return EATER_EATS;
            }
        }

        static int wades(int kind) {
            switch (kind) {
                case GIANT: return EATER_WADES + 900;
                case CHILD: return CHILD_WADES;
                case BABY: return CHILD_WADES / 2;
                case DOG: return DOG_WADES;
                default: return EATER_WADES;
            }
        }

        static int worth(int kind, int ate) {
            switch (kind) {
                case GLUTTON: return gluttonWorth(ate);
                case GIANT: return 2 * gluttonWorth(ate);
                case CHILD: return childWorth(ate);
                case BABY: return childWorth(ate) - 7;
                case DOG: return DOG_WORTH;
                default: return ate;
            }
        }

        private static int gluttonWorth(int ate) {
            return ate + 8;
        }

        private static int childWorth(int ate) {
            return 999 - ate;
        }
    }

    /** Which cells are beside which: of each cell the one to the right, left, beneath, above. */
    private static final class Near {
        static final int SIDES = 4;

        private static final int[] CELL = {
            1, -1, 6, -1,     2, 0, 7, -1,      3, 1, 8, -1,
            4, 2, 9, -1,      5, 3, 10, -1,     -1, 4, 11, -1,
            7, -1, 12, 0,     8, 6, 13, 1,      9, 7, 14, 2,
            10, 8, 15, 3,     11, 9, 16, 4,     -1, 10, 17, 5,
            13, -1, 18, 6,    14, 12, 19, 7,    15, 13, 20, 8,
            16, 14, 21, 9,    17, 15, 22, 10,   -1, 16, 23, 11,
            19, -1, 24, 12,   20, 18, 25, 13,   21, 19, 26, 14,
            22, 20, 27, 15,   23, 21, 28, 16,   -1, 22, 29, 17,
            25, -1, 30, 18,   26, 24, 31, 19,   27, 25, 32, 20,
            28, 26, 33, 21,   29, 27, 34, 22,   -1, 28, 35, 23,
            31, -1, -1, 24,   32, 30, -1, 25,   33, 31, -1, 26,
            34, 32, -1, 27,   35, 33, -1, 28,   -1, 34, -1, 29,
        };

        /** -1: the town ends there. */
        static int beside(int c, int side) {
            return CELL[SIDES * c + side];
        }
    }

    /** All that an image keeps, and how a minute changes it. */
    private static final class Town {
        final int[] heights = new int[CELLS];
        final int[] walls = new int[CELLS];
        final int[] parts = new int[CELLS];
        final int[] kinds = new int[EATERS];
        final int[] places = new int[EATERS];
        final int[] ates = new int[EATERS];
        final int[] rules = {7, 20, 0, 0};
        int eaters;
        int pot;
        boolean cooks;
        int minute;
        int z = 1;
        // Texts are never taken back from under an image, so how many there are tells which.
        int texts;
        private final Laws laws;

        Town(Laws laws) {
            this.laws = laws;
        }

        void becomes(Town other) {
            System.arraycopy(other.heights, 0, heights, 0, CELLS);
            System.arraycopy(other.walls, 0, walls, 0, CELLS);
            System.arraycopy(other.parts, 0, parts, 0, CELLS);
            System.arraycopy(other.kinds, 0, kinds, 0, EATERS);
            System.arraycopy(other.places, 0, places, 0, EATERS);
            System.arraycopy(other.ates, 0, ates, 0, EATERS);
            System.arraycopy(other.rules, 0, rules, 0, rules.length);
            eaters = other.eaters;
            pot = other.pot;
            cooks = other.cooks;
            minute = other.minute;
            z = other.z;
            texts = other.texts;
        }

        boolean hasEater(int e) {
            return within(e, 0, eaters - 1);
        }

        int comes(int kind, int c) {
            int e = eaters;
            if (e < EATERS) {
                kinds[e] = kind;
                places[e] = c;
                ates[e] = 0;
                eaters++;
            }
            return e;
        }

        int[] laid(int what) {
            if (what == 0) {
                return heights;
            }
            return what == 1 ? walls : parts;
        }

        int level(int c) {
            return 10 * (heights[c] + walls[c]) + parts[c];
        }

        int allParts() {
            int all = 0;
            for (int c = 0; c < CELLS; c++) {
                all += parts[c];
            }
            return all;
        }

        int allAte() {
            int all = 0;
            for (int e = 0; e < eaters; e++) {
                all += ates[e];
            }
            return all;
        }

        int wetCells() {
            int wet = 0;
            for (int c = 0; c < CELLS; c++) {
                if (parts[c] > 0) {
                    wet++;
                }
            }
            return wet;
        }

        int pours() {
            Text law = laws.counting(Laws.BOILS, texts);
            int given = law == null ? rules[BOIL] : laws.given(law, rules[BOIL], minute, parts[pot]);
            return Math.max(0, Math.min(99, given));
        }

        int draw() {
            z = z * 1103515245 + 12345;
            return z >>> 8;
        }

        void passes(int n) {
            for (int i = 0; i < n; i++) {
                pass();
            }
        }

        void pass() {
            if (cooks) {
                parts[pot] += pours();
            }
            for (int c = 0; c < CELLS; c++) {
                flows(c);
            }
            for (int e = 0; e < eaters; e++) {
                feasts(e);
            }
            miceEat();
            minute++;
        }

        private void flows(int c) {
            // What is dry has nothing to give: this spares looking round most of the town.
            if (parts[c] == 0) {
                return;
            }
            int lowest = c;
            int least = ABOVE_ALL;
            for (int side = 0; side < Near.SIDES; side++) {
                int other = Near.beside(c, side);
                if (other >= 0 && level(other) < least) {
                    lowest = other;
                    least = level(other);
                }
            }
            int above = level(c) - least;
            if (above > 1) {
                int goes = Math.min(parts[c], above / 2 / (1 + rules[THICK]));
                parts[c] -= goes;
                parts[lowest] += goes;
            }
        }

        private void feasts(int e) {
            int c = places[e];
            int eaten = Math.min(parts[c], Kinds.eats(kinds[e], parts[c]));
            parts[c] -= eaten;
            ates[e] += eaten;
            if (parts[c] == 0) {
                places[e] = fullestBeside(c, Kinds.wades(kinds[e]));
            }
        }

        private int fullestBeside(int c, int wades) {
            int fullest = c;
            int most = 0;
            for (int side = 0; side < Near.SIDES; side++) {
                int other = Near.beside(c, side);
                if (other >= 0 && parts[other] > most && parts[other] <= wades) {
                    fullest = other;
                    most = parts[other];
                }
            }
            return fullest;
        }

        private void miceEat() {
            if (draw() % 100 < rules[MICE]) {
                int c = draw() % CELLS;
                walls[c] = Math.max(0, walls[c] - 1);
            }
        }
    }

    /** Finds ways over what bears; its rows are made once and used again. */
    private static final class Ways {
        private final int[] steps = new int[CELLS];
        private final int[] reached = new int[CELLS];

        int fewest(int[] parts, int from, int to, int most) {
            for (int c = 0; c < CELLS; c++) {
                steps[c] = NONE;
            }
            steps[from] = 0;
            reached[0] = from;
            int many = 1;
            for (int i = 0; i < many && i < CELLS && steps[to] == NONE; i++) {
                for (int side = 0; side < Near.SIDES; side++) {
                    int other = Near.beside(reached[i], side);
                    if (other >= 0 && steps[other] == NONE && parts[other] <= most && many < CELLS) {
                        steps[other] = steps[reached[i]] + 1;
                        reached[many] = other;
                        many++;
                    }
                }
            }
            return steps[to];
        }
    }

    /** A row of shorts or floats; floats are whole, so that ints can hold both. */
    private static final class Sheet {
        static final int MISSING = -1, SHORTS = 0, FLOATS = 1;
        // No float and no short can be this number.
        static final int NO_NUMBER = NONE;

        final int[] places = new int[MOST_PLACES];
        int sort = MISSING;
        int size;

        void becomes(int newSort, int newSize) {
            sort = newSort;
            size = newSize;
            for (int i = 0; i < MOST_PLACES; i++) {
                places[i] = 0;
            }
        }

        void becomes(Sheet other) {
            sort = other.sort;
            size = other.size;
            System.arraycopy(other.places, 0, places, 0, MOST_PLACES);
        }

        boolean isMissing() {
            return sort == MISSING;
        }

        boolean hasPlace(int place) {
            return within(place, 0, size - 1);
        }

        boolean hasPlaces(int place, int many) {
            return within(many, 0, size) && within(place, 0, size - many);
        }

        boolean isNumber(int place) {
            return places[place] != NO_NUMBER;
        }

        int differsFrom(int[] row) {
            int all = 0;
            for (int i = 0; i < size; i++) {
                if (isNumber(i)) {
                    all += Math.abs(row[i] - places[i]);
                }
            }
            return all;
        }

        int firstUnlike(int[] row) {
            for (int i = 0; i < size; i++) {
                if (isNumber(i) && row[i] != places[i]) {
                    return i;
                }
            }
            return NONE;
        }

        int poursInto(int[] heights) {
            int otherwise = 0;
            for (int i = 0; i < size; i++) {
                int height = isNumber(i) ? Math.max(0, Math.min(LAID_MOST[0], places[i])) : heights[i];
                if (height != heights[i]) {
                    heights[i] = height;
                    otherwise++;
                }
            }
            return otherwise;
        }
    }

    /** What a slot holds: nothing, an eater as it was, a row of its own, or a number. */
    private static final class Slot {
        int thing;
        int kind;
        int ate;
        int number;
        final Sheet row = new Sheet();
    }

    /** One text, its numbers, names and signs in the order in which they are worked out. */
    private static final class Text {
        final int[] code = new int[MOST_TAPE];
        int size;
        int key;
        int leaves;

        void begins(int newKey) {
            key = newKey;
            size = 0;
            leaves = 0;
        }

        void adds(int c) {
            if (size < code.length) {
                code[size] = c;
                size++;
            }
        }
    }

    /** The texts that have been told, and what they give. */
    private static final class Laws {
        static final int MOST = 14, BOILS = 0, FEE = 1, FINE = 2;
        // Codes below NAMES are numbers, then come the three names; signs stand as their bytes, below 0.
        static final int NAMES = 10000;

        private final Text[] texts = new Text[MOST];
        private final int[] stack = new int[MOST_TAPE];

        /** A text gets a number; back comes one that counts no more, to be written over. */
        Text takes(int number, Text told) {
            if (!within(number, 0, MOST - 1)) {
                return told;
            }
            Text old = texts[number];
            texts[number] = told;
            return old == null ? new Text() : old;
        }

        Text numbered(int number) {
            return within(number, 0, MOST - 1) ? texts[number] : null;
        }

        /** -1: none of the first so many is of that key. */
        int last(int key, int many) {
            for (int i = Math.min(many, MOST) - 1; i >= 0; i--) {
                if (texts[i] != null && texts[i].key == key) {
                    return i;
                }
            }
            return -1;
        }

        Text counting(int key, int many) {
            return numbered(last(key, many));
        }

        int given(Text law, int first, int second, int third) {
            int top = 0;
            for (int i = 0; i < law.size; i++) {
                int c = law.code[i];
                if (c >= 0 && top < stack.length) {
                    stack[top] = c < NAMES ? c : c == NAMES ? first : c == NAMES + 1 ? second : third;
                    top++;
                } else if (c == -'!' && top >= 1) {
                    stack[top - 1] = stack[top - 1] == 0 ? 1 : 0;
                } else if (top >= 2) {
                    top--;
                    stack[top - 1] = joined(-c, stack[top - 1], stack[top]);
                }
            }
            return stack[0];
        }

        private static int joined(int sign, int a, int b) {
            switch (sign) {
                case '|': return a != 0 || b != 0 ? 1 : 0;
                case '&': return a != 0 && b != 0 ? 1 : 0;
                case '<': return a < b ? 1 : 0;
                case '=': return a == b ? 1 : 0;
                case '>': return a > b ? 1 : 0;
                case '+': return a + b;
                case '-': return a - b;
                case '*': return a * b;
                default: return b == 0 ? 0 : a / b;
            }
        }
    }

    /** The tape, read into a draft until the first word or sign with which no text goes on. */
    private static final class Reader {
        private static final int END = 0, WORD = 1, NUMBER = 2, SIGN = 3, STRAY = 4;
        private static final int MOST_OPEN = 8, MOST_DIGITS = 4;

        Text draft = new Text();
        int length;
        private final byte[] bytes = new byte[MOST_TAPE];
        private int sort;
        private int start;
        private int end;
        private int parens;
        private int nots;

        void getsNumber(int v) {
            for (int shift = 24; shift >= 0 && length < MOST_TAPE; shift -= 8) {
                bytes[length] = (byte) (v >> shift);
                length++;
            }
        }

        /** -1: there is none, and the draft is the text. */
        int findsFault() {
            sort = END;
            start = 0;
            end = 0;
            parens = 0;
            nots = 0;
            goesOn();
            int key = keyHere();
            if (key < 0) {
                return start;
            }
            draft.begins(key);
            goesOn();
            return readsOr() && sort == END ? -1 : start;
        }

        private void goesOn() {
            boolean behindWord = sort == WORD || sort == NUMBER;
            int from = end;
            start = end;
            while (start < length && bytes[start] == ' ') {
                start++;
            }
            end = start;
            if (start >= length) {
                sort = END;
            } else if (isLetter(start)) {
                while (end < length && isLetter(end)) {
                    end++;
                }
                sort = WORD;
            } else if (isDigit(start)) {
                while (end < length && isDigit(end)) {
                    end++;
                }
                sort = end - start > MOST_DIGITS ? STRAY : NUMBER;
            } else {
                end++;
                sort = SIGN;
            }
            if (behindWord && start == from && (sort == WORD || sort == NUMBER)) {
                sort = STRAY;
            }
        }

        private boolean isLetter(int at) {
            return within(bytes[at], 'a', 'z');
        }

        private boolean isDigit(int at) {
            return within(bytes[at], '0', '9');
        }

        private int keyHere() {
            if (isWord("boil")) {
                return Laws.BOILS;
            }
            if (isWord("fee")) {
                return Laws.FEE;
            }
            return isWord("fine") ? Laws.FINE : -1;
        }

        private boolean isWord(String word) {
            if (sort != WORD || end - start != word.length()) {
                return false;
            }
            for (int i = 0; i < word.length(); i++) {
                if (bytes[start + i] != word.charAt(i)) {
                    return false;
                }
            }
            return true;
        }

        /** -1: the key has no such name. */
        private int nameHere() {
            if (sort != WORD || end - start != 1) {
                return -1;
            }
            String names = draft.key == Laws.BOILS ? "btp" : draft.key == Laws.FEE ? "ap" : "ac";
            return names.indexOf((char) bytes[start]);
        }

        private boolean isSign(char sign) {
            return sort == SIGN && bytes[start] == sign;
        }

        private boolean readsOr() {
            boolean goes = readsAnd();
            for (int i = 0; i < MOST_TAPE && goes && isSign('|'); i++) {
                goesOn();
                goes = readsAnd();
                draft.adds(-'|');
            }
            return goes;
        }

        private boolean readsAnd() {
            boolean goes = readsTest();
            for (int i = 0; i < MOST_TAPE && goes && isSign('&'); i++) {
                goesOn();
                goes = readsTest();
                draft.adds(-'&');
            }
            return goes;
        }

        private boolean readsTest() {
            boolean goes = readsSum();
            if (goes && (isSign('<') || isSign('=') || isSign('>'))) {
                int sign = bytes[start];
                goesOn();
                goes = readsSum();
                draft.adds(-sign);
            }
            return goes;
        }

        private boolean readsSum() {
            boolean goes = readsTerm();
            for (int i = 0; i < MOST_TAPE && goes && (isSign('+') || isSign('-')); i++) {
                int sign = bytes[start];
                goesOn();
                goes = readsTerm();
                draft.adds(-sign);
            }
            return goes;
        }

        private boolean readsTerm() {
            boolean goes = readsPiece();
            for (int i = 0; i < MOST_TAPE && goes && (isSign('*') || isSign('/')); i++) {
                int sign = bytes[start];
                goesOn();
                goes = readsPiece();
                draft.adds(-sign);
            }
            return goes;
        }

        private boolean readsPiece() {
            if (isSign('!')) {
                return nots < MOST_OPEN && readsNot();
            }
            if (isSign('(')) {
                return parens < MOST_OPEN && readsParen();
            }
            int name = nameHere();
            if (sort != NUMBER && name < 0) {
                return false;
            }
            draft.adds(sort == NUMBER ? numberHere() : Laws.NAMES + name);
            draft.leaves++;
            goesOn();
            return true;
        }

        private boolean readsNot() {
            nots++;
            goesOn();
            boolean goes = readsPiece();
            nots--;
            draft.adds(-'!');
            return goes;
        }

        private boolean readsParen() {
            parens++;
            goesOn();
            boolean goes = readsOr() && isSign(')');
            parens--;
            if (goes) {
                goesOn();
            }
            return goes;
        }

        private int numberHere() {
            int v = 0;
            for (int i = start; i < end; i++) {
                v = 10 * v + bytes[i] - '0';
            }
            return v;
        }
    }
}
