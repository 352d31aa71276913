/** Each promise of the document by itself: ordinary inputs, the edges that it names, wrong inputs. */
final class PromiseTests {
    private static final int BAD = -1, FULL = -2, FINDING = -3, STATE = -4, SPENT = -6, NONE = -9;
    private static final int NOTHING = 1, BEYOND = 2, UNLIKE = 3, NOUGHT = 4, SIZE = 5;
    private static final int MIN = Integer.MIN_VALUE, MAX = Integer.MAX_VALUE;
    /** One of each KIND, two TWINS, two STONES: 20, 30, 35, 10 (of 20), 25 (of 20), 5 (of 20) are COUNTED. */
    private static final String MIXED = "x3 o4 o9 g20 t30 t35 c20 n20 b20";
    private static Check check = new Check("none");

    public static void main(String[] args) {
        int wrong = 0;
        for (int promise = 1; promise <= 42; promise++) {
            check = new Check("promise " + promise);
            tell(promise);
            wrong += check.wrong();
        }
        System.out.println("42 promises, " + wrong + " answers not as due");
        System.exit(wrong == 0 ? 0 : 1);
    }

    private static void tell(int promise) {
        switch (promise) {
            case 1: aNewObject(); break;
            case 2: row(); break;
            case 3: lay(); break;
            case 4: at(); break;
            case 5: tear(); break;
            case 6: copy(); break;
            case 7: mean(); break;
            case 8: text(); break;
            case 9: put(); break;
            case 10: fault(); break;
            case 11: tower(); break;
            case 12: one(); break;
            case 13: mark(); break;
            case 14: go(); break;
            case 15: loaf(); break;
            case 16: undo(); break;
            case 17: keep(); break;
            case 18: on(); break;
            case 19: sink(); break;
            case 20: best(); break;
            case 21: pairs(); break;
            case 22: match(); break;
            case 23: waits(); break;
            case 24: worth(); break;
            case 25: loaves(); break;
            case 26: up(); break;
            case 27: down(); break;
            case 28: ever(); break;
            case 29: pounds(); break;
            case 30: kinds(); break;
            case 31: next(); break;
            case 32: send(); break;
            case 33: odds(); break;
            case 34: mid(); break;
            case 35: lots(); break;
            case 36: asked(); break;
            case 37: upper(); break;
            case 38: lower(); break;
            case 39: count(); break;
            case 40: finding(); break;
            case 41: findings(); break;
            default: digest(); break;
        }
    }

    // ---- what the tests share

    private static void due(String call, long got, long want) {
        check.due(call, got, want);
    }

    private static void told(PairStairs x, String call, long got, long want, long asked) {
        due(call, got, want);
        due("asked() behind " + call, x.asked(), asked);
    }

    private static void found(PairStairs x, String call, long got, int finding) {
        due(call, got, FINDING);
        due("finding() behind " + call, x.finding(), finding);
    }

    private static void shares(PairStairs x, String call, long got, long upper, long lower) {
        due(call, got, 1);
        due("upper() behind " + call, x.upper(), upper);
        due("lower() behind " + call, x.lower(), lower);
    }

    private static void write(PairStairs x, int t, String text) {
        due("text for " + text, x.text(t, text.length()), text.length());
        for (int i = 0; i < text.length(); i++) {
            due("put for " + text, x.put(t, i, text.charAt(i)), 1032);
        }
    }

    private static PairStairs of(String text) {
        PairStairs x = new PairStairs();
        write(x, 0, text);
        due("fault of " + text, x.fault(0), NONE);
        due("tower of " + text + " has PEOPLE", x.tower(0) >= 2 ? 1 : 0, 1);
        return x;
    }

    private static void fill(PairStairs x, int r, int... places) {
        due("row", x.row(r, places.length), places.length);
        for (int i = 0; i < places.length; i++) {
            due("lay", x.lay(r, i, places[i]), 1);
        }
    }

    private static void holdsRow(PairStairs x, String what, int r, int... places) {
        for (int i = 0; i < places.length; i++) {
            told(x, what + " at " + i, x.at(r, i), 1, places[i]);
        }
        due(what + " ends", x.at(r, places.length), FINDING);
    }

    private static void loavesEaten(PairStairs x, int many) {
        for (int k = 1; k <= many; k++) {
            x.loaf();
        }
    }

    private static void deeds(PairStairs x, int many) {
        for (int k = 0; k < many; k++) {
            x.go(0, 1, 0, 0);
        }
        due("deeds", x.count(2), many);
    }

    // ---- 1 rows, texts, towers

    private static void aNewObject() {
        PairStairs x = new PairStairs();
        for (int what = 0; what <= 12; what++) {
            due("count " + what, x.count(what), 0);
        }
        for (int r = 0; r < 6; r++) {
            found(x, "at of a missing ROW", x.at(r, 0), NOTHING);
        }
        for (int t = 0; t < 4; t++) {
            found(x, "fault of a missing TEXT", x.fault(t), NOTHING);
        }
        for (int k = 0; k < 3; k++) {
            found(x, "on of a missing TOWER", x.on(k), NOTHING);
        }
        due("one of nobody", x.one(0, 0), BAD);
        due("asked", x.asked(), 0);
        due("upper", x.upper(), 0);
        due("lower", x.lower(), 1);
        due("finding of another new object", new PairStairs().finding(), 0);
    }

    private static void row() {
        PairStairs x = new PairStairs();
        due("row", x.row(0, 3), 3);
        holdsRow(x, "row", 0, 0, 0, 0);
        due("the last row, the longest", x.row(5, 40), 40);
        due("its last place", x.at(5, 39), 1);
        due("an empty row", x.row(1, 0), 0);
        due("rows", x.count(10), 3);
        x.lay(0, 2, 7);
        due("row anew", x.row(0, 4), 4);
        holdsRow(x, "row anew", 0, 0, 0, 0, 0);
        due("no such row", x.row(-1, 3), BAD);
        due("no such row", x.row(6, 3), BAD);
        due("too long", x.row(0, 41), BAD);
        due("too long", x.row(0, MAX), BAD);
        due("BAD ahead of SIZE", x.row(6, -1), BAD);
        due("no finding yet but of at", x.findings(SIZE), 0);
        found(x, "below none", x.row(0, -1), SIZE);
        found(x, "below none", x.row(2, MIN), SIZE);
        holdsRow(x, "row as it was", 0, 0, 0, 0, 0);
        due("rows as they were", x.count(10), 3);
    }

    private static void lay() {
        PairStairs x = new PairStairs();
        found(x, "lay in a missing row", x.lay(0, 0, 5), NOTHING);
        x.row(0, 3);
        told(x, "lay", x.lay(0, 1, 5), 1, 0);
        told(x, "lay again", x.lay(0, 1, MIN), 1, 5);
        told(x, "lay again", x.lay(0, 1, MAX), 1, MIN);
        found(x, "behind", x.lay(0, 3, 5), BEYOND);
        found(x, "ahead", x.lay(0, -1, 5), BEYOND);
        found(x, "far ahead", x.lay(0, MIN, 5), BEYOND);
        due("no such row", x.lay(6, 0, 5), BAD);
        due("no such row", x.lay(-1, 0, 5), BAD);
        due("asked as it was", x.asked(), MIN);
        holdsRow(x, "the row", 0, 0, MAX, 0);
        x.row(1, 0);
        found(x, "in an empty row", x.lay(1, 0, 5), BEYOND);
    }

    private static void at() {
        PairStairs x = new PairStairs();
        found(x, "at of a missing row", x.at(0, 0), NOTHING);
        due("BAD ahead of NOTHING", x.at(6, 0), BAD);
        fill(x, 2, -8, 9);
        told(x, "at", x.at(2, 0), 1, -8);
        told(x, "at", x.at(2, 1), 1, 9);
        found(x, "behind", x.at(2, 2), BEYOND);
        found(x, "ahead", x.at(2, -1), BEYOND);
        found(x, "far behind", x.at(2, MAX), BEYOND);
        due("no such row", x.at(-1, 0), BAD);
        due("asked as it was", x.asked(), 9);
    }

    private static void tear() {
        PairStairs x = new PairStairs();
        found(x, "tear a missing row", x.tear(5), NOTHING);
        fill(x, 5, 4, 5);
        due("tear", x.tear(5), 1);
        found(x, "at behind it", x.at(5, 0), NOTHING);
        due("rows", x.count(10), 0);
        found(x, "tear again", x.tear(5), NOTHING);
        due("no such row", x.tear(6), BAD);
        due("no such row", x.tear(-1), BAD);
        x.row(5, 0);
        due("tear an empty row", x.tear(5), 1);
    }

    private static void copy() {
        PairStairs x = new PairStairs();
        fill(x, 0, 1, 2, 3, 4, 5);
        x.row(1, 3);
        due("copy", x.copy(0, 2, 1, 1, 2), 1);
        holdsRow(x, "to another", 1, 0, 3, 4);
        due("copy to itself, on", x.copy(0, 0, 0, 1, 4), 1);
        holdsRow(x, "to itself, on", 0, 1, 1, 2, 3, 4);
        due("copy to itself, back", x.copy(0, 2, 0, 0, 3), 1);
        holdsRow(x, "to itself, back", 0, 2, 3, 4, 3, 4);
        due("copy all", x.copy(1, 0, 0, 2, 3), 1);
        holdsRow(x, "all", 0, 2, 3, 0, 3, 4);
        due("copy none at the ends", x.copy(0, 5, 1, 3, 0), 1);
        due("copy none from the start", x.copy(0, 0, 1, 0, 0), 1);
        found(x, "none behind the end", x.copy(0, 6, 1, 3, 0), BEYOND);
        found(x, "none to behind the end", x.copy(0, 5, 1, 4, 0), BEYOND);
        found(x, "none ahead", x.copy(0, -1, 1, 0, 0), BEYOND);
        found(x, "none to ahead", x.copy(0, 0, 1, -1, 0), BEYOND);
        found(x, "too many there", x.copy(0, 4, 1, 0, 2), BEYOND);
        found(x, "too many to there", x.copy(0, 0, 1, 2, 2), BEYOND);
        found(x, "far too many", x.copy(0, 1, 1, 0, MAX), BEYOND);
        found(x, "from far behind", x.copy(0, MAX, 1, 0, MAX), BEYOND);
        found(x, "missing", x.copy(2, 0, 0, 0, 1), NOTHING);
        found(x, "to missing", x.copy(0, 0, 2, 0, 1), NOTHING);
        found(x, "NOTHING ahead of BEYOND", x.copy(0, 9, 2, 0, 1), NOTHING);
        found(x, "SIZE ahead of NOTHING", x.copy(2, 9, 2, 0, -1), SIZE);
        due("no such row", x.copy(6, 0, 0, 0, -1), BAD);
        due("to no such row", x.copy(0, 0, -1, 0, -1), BAD);
        holdsRow(x, "as they were", 0, 2, 3, 0, 3, 4);
        holdsRow(x, "as they were", 1, 0, 3, 4);
    }

    private static void mean() {
        PairStairs x = new PairStairs();
        found(x, "mean of a missing row", x.mean(0), NOTHING);
        x.row(0, 0);
        found(x, "shared among none", x.mean(0), NOUGHT);
        fill(x, 0, 3, 4, 4);
        told(x, "mean", x.mean(0), 1, 3);
        fill(x, 0, -3, -4, -4);
        told(x, "mean below 0", x.mean(0), 1, -3);
        fill(x, 0, MAX, MAX, MAX - 3);
        told(x, "mean of great ones", x.mean(0), 1, MAX - 1);
        fill(x, 0, MIN, MIN);
        told(x, "mean of the least ones", x.mean(0), 1, MIN);
        due("no such row", x.mean(6), BAD);
        due("no such row", x.mean(-1), BAD);
        due("asked as it was", x.asked(), MIN);
    }

    private static void text() {
        PairStairs x = new PairStairs();
        due("text", x.text(3, 60), 60);
        due("a blank at its end", x.put(3, 59, 120), 1032);
        due("an empty text", x.text(0, 0), 0);
        due("texts", x.count(11), 2);
        due("text anew", x.text(3, 60), 60);
        due("a blank again", x.put(3, 59, 1), 1032);
        due("too long", x.text(0, 61), BAD);
        due("no such text", x.text(4, 1), BAD);
        due("no such text", x.text(-1, 1), BAD);
        due("BAD ahead of SIZE", x.text(4, -1), BAD);
        found(x, "below none", x.text(1, -1), SIZE);
        due("texts", x.count(11), 2);
    }

    private static void put() {
        PairStairs x = new PairStairs();
        found(x, "put into a missing text", x.put(0, 0, 1), NOTHING);
        x.text(0, 2);
        due("put", x.put(0, 0, 200), 1032);
        due("cut to a byte", x.put(0, 0, 128), 944);
        due("the least byte", x.put(0, 0, 127), 872);
        due("the greatest byte", x.put(0, 0, -129), 1127);
        due("cut from below", x.put(0, 0, 256 + 'x'), 1127);
        due("cut from above", x.put(0, 0, MIN), 1120);
        due("none", x.put(0, 0, -1), 1000);
        due("below none", x.put(0, 0, 0), 999);
        found(x, "behind", x.put(0, 2, 1), BEYOND);
        found(x, "ahead", x.put(0, -1, 1), BEYOND);
        due("no such text", x.put(4, 0, 1), BAD);
        due("no such text", x.put(-1, 0, 1), BAD);
        due("the other place", x.put(0, 1, 1), 1032);
    }

    private static void faultOf(String text, int want) {
        PairStairs x = new PairStairs();
        write(x, 2, text);
        due("fault of '" + text + "'", x.fault(2), want);
        due("tower of '" + text + "' is refused", x.tower(2) == STATE ? 1 : 0, want == NONE ? 0 : 1);
    }

    private static void fault() {
        faultOf("x0g10g10", NONE);
        faultOf("  x9  o1  o9 o5o5 t99 c01  ", NONE);
        faultOf("x5g10t10c10l10n10b10", NONE);
        faultOf("", 0);
        faultOf("   ", 3);
        faultOf("o1g10g10", 0);
        faultOf(" X1g10g10", 1);
        faultOf("x", 1);
        faultOf("x g10g10", 1);
        faultOf("xag10g10", 1);
        faultOf("x12g10g10", 2);
        faultOf("x1", 2);
        faultOf("x1  ", 4);
        faultOf("x1xg10g10", 2);
        faultOf("x1o0g10g10", 3);
        faultOf("x1o g10g10", 3);
        faultOf("x1o12g10g10", 4);
        faultOf("x1o", 3);
        faultOf("x1o1o2o3o4o5g10g10", 10);
        faultOf("x1o1o2o3o4 o", 11);
        faultOf("x1g10o1g10", 5);
        faultOf("x1g00g10", 4);
        faultOf("x1g01g10", NONE);
        faultOf("x1g1", 4);
        faultOf("x1g1 0g10", 4);
        faultOf("x1g 10g10", 3);
        faultOf("x1g100g10", 5);
        faultOf("x1g1/g10", 4);
        faultOf("x1g1:g10", 4);
        faultOf("x1g10", 5);
        faultOf("x1g10  ", 7);
        faultOf("x1g10a10", 5);
        faultOf("x1g10G10", 5);
        faultOf("x1g10g10g10g10g10g10g10", 20);
        faultOf("x1g10g10g10g10g10g10 g", 21);
        faultOf("x1g10g10\u0000", 8);
        PairStairs x = new PairStairs();
        found(x, "fault of a missing text", x.fault(0), NOTHING);
        due("no such text", x.fault(4), BAD);
        due("no such text", x.fault(-1), BAD);
        x = of(MIXED);
        write(x, 1, "x1o1g1");
        due("a fault", x.fault(1), 6);
        due("the TOWER as it was", x.one(5, 0), 1);
        due("its LIMIT", x.count(6), 3);
        due("its STONES", x.count(1), 2);
    }

    private static void tower() {
        PairStairs x = new PairStairs();
        found(x, "tower by a missing text", x.tower(0), NOTHING);
        due("no such text", x.tower(4), BAD);
        due("no such text", x.tower(-1), BAD);
        write(x, 0, MIXED);
        due("tower", x.tower(0), 6);
        due("stones", x.count(1), 2);
        due("limit", x.count(6), 3);
        x.go(0, 1, 0, 0);
        x.go(1, 2, 0, 0);
        x.loaf();
        x.keep(1);
        x.go(0, 4, 2, 1);
        due("somebody is up", x.count(4), 23);
        write(x, 1, "x1g10g1");
        due("a FAULT", x.tower(1), STATE);
        due("all as it was", x.count(0), 6);
        due("all as it was", x.count(2), 3);
        due("the kept one as it was", x.count(12), 1);
        due("a TEXT again", x.tower(0), 6);
        for (int what : new int[] {2, 3, 4, 5, 7, 12}) {
            due("anew: count " + what, x.count(what), 0);
        }
        found(x, "kept TOWERS go", x.on(1), NOTHING);
        write(x, 3, "x0g10g10");
        due("another", x.tower(3), 2);
        due("its STONES", x.count(1), 0);
        due("its LIMIT", x.count(6), 0);
        due("texts stay", x.count(11), 3);
    }

    private static void one() {
        PairStairs x = new PairStairs();
        due("one of none", x.one(0, 0), BAD);
        x = of("x3 o4 o9 g21 t31 c21 l21 n21 b23");
        int[] counts = {21, 31, 10, 26, 26, 5};
        int[] pounds = {21, 31, 21, 21, 21, 23};
        for (int i = 0; i < 6; i++) {
            told(x, "KIND", x.one(i, 0), 1, i);
            told(x, "POUNDS", x.one(i, 1), 1, pounds[i]);
            told(x, "COUNTS", x.one(i, 2), 1, counts[i]);
            told(x, "at the TOP", x.one(i, 3), 1, 0);
        }
        loavesEaten(x, 2);
        told(x, "a CANON with LOAVES", x.one(4, 2), 1, 28);
        told(x, "a LAME with LOAVES", x.one(3, 2), 1, 26);
        x = of("x1 o4 g20 g25 g30 t40 t43 g50");
        told(x, "CAN go", x.one(0, 4), 1, 0b000010);
        told(x, "CAN go", x.one(1, 4), 1, 0b000101);
        told(x, "CAN go", x.one(3, 4), 1, 0b010000);
        told(x, "CAN go", x.one(5, 4), 1, 0);
        due("go", x.go(3, 4, 0, 0), 1);
        told(x, "at the TOP", x.one(3, 3), 1, 1);
        told(x, "CAN go", x.one(3, 4), 1, 0b010000);
        due("go", x.go(0, 1, 1, 0), 1);
        told(x, "no STONE there", x.one(2, 4), 1, 0);
        due("none such", x.one(6, 0), BAD);
        due("none such", x.one(-1, 0), BAD);
        due("none such", x.one(0, 5), BAD);
        due("none such", x.one(0, -1), BAD);
        due("asked as it was", x.asked(), 0);
    }

    private static void mark() {
        PairStairs x = of("x3 t30 t31 c21 l22 n20 b23");
        due("TWINS", x.mark(0, 1), 1);
        due("CHILD", x.mark(2, 2), 11);
        due("BUNDLE, a CHILD", x.mark(5, 2), 18);
        due("BUNDLE", x.mark(5, 5), 6);
        due("LAME", x.mark(3, 3), 2);
        due("CANON, a LAME", x.mark(4, 3), 3);
        due("CANON", x.mark(4, 4), 9);
        loavesEaten(x, 3);
        due("CANON with LOAVES", x.mark(4, 4), 6);
        due("CANON, a LAME, with LOAVES", x.mark(4, 3), 2);
        due("LAME", x.mark(3, 3), 3);
        loavesEaten(x, 6);
        due("CANON with all LOAVES", x.mark(4, 4), 0);
        int[] unlike = {0, 2, 0, 3, 0, 4, 0, 5, 2, 1, 2, 5, 3, 4, 3, 2, 4, 1, 4, 5, 5, 3};
        for (int k = 0; k < unlike.length; k += 2) {
            found(x, "UNLIKE " + unlike[k] + " " + unlike[k + 1], x.mark(unlike[k], unlike[k + 1]), UNLIKE);
        }
        due("a GUEST", x.mark(0, 0), BAD);
        due("no KIND", x.mark(0, 6), BAD);
        due("no KIND", x.mark(0, -1), BAD);
        due("none such", x.mark(6, 1), BAD);
        due("none such", x.mark(-1, 1), BAD);
        due("the only TWIN", of("x3 g30 t30").mark(1, 1), 0);
        due("a light BUNDLE", of("x3 g30 b03").mark(1, 5), 1);
        due("a light CHILD", of("x3 g30 c01").mark(1, 2), 1);
        due("three TWINS", of("x3 t30 t30 t01").mark(1, 1), 2);
        due("nobody yet", new PairStairs().mark(0, 1), BAD);
    }

    // ---- 2 deeds

    private static void go() {
        PairStairs x = of("x3 o4 o9 g20 g23 t30 t37 g60 g27");
        due("go", x.go(0, 1, 0, 0), 3);
        due("up", x.count(4), 3);
        due("not at one end", x.go(1, 2, 0, 0), STATE);
        due("STONES not there", x.go(0, 1, 1, 0), STATE);
        due("STONES not there", x.go(0, 1, 0, 2), STATE);
        due("TWINS", x.go(2, 3, 0, 0), 3);
        due("down again", x.go(1, 0, 0, 0), 3);
        due("down", x.count(4), 12);
        due("too much", x.go(1, 5, 0, 0), SPENT);
        due("with a STONE", x.go(1, 5, 1, 0), 0);
        due("a STONE up", x.count(5), 1);
        due("SPENT with both", x.go(0, 4, 3, 0), STATE);
        due("SPENT with one", x.go(0, 4, 2, 0), SPENT);
        due("STATE ahead of SPENT", x.go(0, 1, 0, 0), STATE);
        due("down with it", x.go(5, 1, 0, 1), 0);
        due("a STONE down", x.count(5), 0);
        due("each with one", x.go(0, 1, 2, 1), 2);
        due("both up", x.count(5), 3);
        due("steps", x.count(7), 11);
        due("deeds", x.count(2), 6);
        due("oneself", x.go(1, 1, 0, 0), BAD);
        due("nobody", x.go(6, 1, 0, 0), BAD);
        due("nobody", x.go(1, -1, 0, 0), BAD);
        due("no set", x.go(0, 1, 4, 0), BAD);
        due("no set", x.go(0, 1, 0, 4), BAD);
        due("no set", x.go(0, 1, -1, 0), BAD);
        due("no set", x.go(0, 1, 0, MIN), BAD);
        due("sharing a STONE", x.go(0, 1, 1, 3), BAD);
        due("as it was", x.count(2), 6);
        x = of("x0 g10 g10 g20");
        deeds(x, 40);
        due("FULL", x.go(0, 1, 0, 0), FULL);
        due("SPENT ahead of FULL", x.go(0, 2, 0, 0), SPENT);
        due("BAD ahead of FULL", x.go(0, 0, 0, 0), BAD);
        due("nobody yet", new PairStairs().go(0, 1, 0, 0), BAD);
    }

    private static void loaf() {
        due("no PEOPLE", new PairStairs().loaf(), STATE);
        PairStairs x = of("x0 g10 g10");
        for (int k = 1; k <= 9; k++) {
            due("loaf", x.loaf(), k);
        }
        due("9 are eaten", x.loaf(), STATE);
        due("deeds", x.count(2), 9);
        due("loaves", x.count(3), 9);
        for (int k = 0; k < 31; k++) {
            x.go(0, 1, 0, 0);
        }
        due("STATE ahead of FULL", x.loaf(), STATE);
        x = of("x0 g10 g10");
        deeds(x, 39);
        due("the last deed", x.loaf(), 1);
        due("FULL", x.loaf(), FULL);
        due("loaves", x.count(3), 1);
    }

    private static void undo() {
        due("nothing to undo", new PairStairs().undo(0), 0);
        due("BAD", new PairStairs().undo(1), BAD);
        PairStairs x = of("x3 o4 o9 g20 g23 t30 t37 g60 g27");
        x.go(0, 1, 0, 0);
        x.loaf();
        x.go(1, 0, 2, 1);
        due("no STONES there, nothing", x.count(2), 2);
        x.go(5, 4, 0, 0);
        x.go(2, 3, 1, 0);
        x.loaf();
        due("deeds", x.count(2), 4);
        due("stones", x.count(5), 1);
        due("steps", x.count(7), 4);
        due("none", x.undo(4), 0);
        due("too many", x.undo(5), BAD);
        due("below none", x.undo(-1), BAD);
        due("the last", x.undo(3), 1);
        due("loaves", x.count(3), 1);
        due("up", x.count(4), 15);
        due("two", x.undo(1), 2);
        due("deeds", x.count(2), 1);
        due("loaves", x.count(3), 0);
        due("up", x.count(4), 3);
        due("stones", x.count(5), 0);
        due("steps", x.count(7), 3);
        due("another way", x.go(0, 1, 0, 0), 3);
        due("all", x.undo(0), 2);
        due("up", x.count(4), 0);
        due("steps", x.count(7), 0);
    }

    private static void keep() {
        due("no PEOPLE", new PairStairs().keep(0), STATE);
        due("BAD ahead of STATE", new PairStairs().keep(3), BAD);
        PairStairs x = of("x0 o1 g10 g10");
        due("keep without deeds", x.keep(2), 0);
        x.go(0, 1, 0, 0);
        x.loaf();
        due("keep", x.keep(0), 2);
        due("kept", x.count(12), 2);
        due("no place", x.keep(3), BAD);
        due("no place", x.keep(-1), BAD);
        x.go(0, 1, 0, 0);
        x.loaf();
        due("go on", x.on(0), 2);
        due("up", x.count(4), 3);
        due("loaves", x.count(3), 1);
        x.loaf();
        due("keep again", x.keep(0), 3);
        x.undo(0);
        due("go on", x.on(0), 3);
        due("loaves", x.count(3), 2);
    }

    private static void on() {
        PairStairs x = of("x9 o5 g10 g13 g15 g17");
        found(x, "missing", x.on(2), NOTHING);
        due("no place", x.on(3), BAD);
        due("no place", x.on(-1), BAD);
        x.go(0, 1, 1, 0);
        x.loaf();
        x.go(2, 3, 0, 0);
        x.keep(1);
        x.undo(1);
        due("another way", x.go(0, 1, 0, 1), 8);
        due("and again", x.go(0, 1, 1, 0), 2);
        x.keep(2);
        x.loaf();
        due("on", x.on(1), 3);
        due("up", x.count(4), 15);
        due("stones", x.count(5), 1);
        due("loaves", x.count(3), 1);
        due("steps", x.count(7), 4);
        due("undo what was kept", x.undo(1), 2);
        due("steps", x.count(7), 2);
        due("stones", x.count(5), 1);
        due("on again", x.on(1), 3);
        due("kept still", x.count(12), 2);
        due("on with the other one", x.on(2), 3);
        due("up", x.count(4), 3);
        due("loaves", x.count(3), 0);
        due("steps", x.count(7), 12);
        x.undo(0);
        due("others are not kept", x.on(0), FINDING);
        due("as it was", x.count(2), 0);
    }

    // ---- 3 who with whom

    private static void sink() {
        PairStairs x = of(MIXED);
        due("GUEST and TWIN", x.sink(0, 1, 0, 0), 10);
        due("TWINS", x.sink(1, 2, 0, 0), 2);
        due("TWINS", x.sink(2, 1, 0, 1), 0);
        due("TWINS", x.sink(2, 1, 0, 2), 2);
        due("TWINS with STONES", x.sink(2, 1, 2, 1), 5);
        due("CHILD and BUNDLE", x.sink(3, 5, 0, 0), 5);
        due("CANON and GUEST", x.sink(4, 0, 0, 1), 1);
        due("both STONES", x.sink(4, 0, 3, 0), 18);
        due("go", x.go(1, 2, 1, 0), 0);
        due("wherever all are", x.sink(0, 1, 0, 1), 14);
        loavesEaten(x, 3);
        due("with LOAVES", x.sink(4, 0, 0, 0), 8);
        due("oneself", x.sink(1, 1, 0, 0), BAD);
        due("nobody", x.sink(0, 6, 0, 0), BAD);
        due("nobody", x.sink(-1, 0, 0, 0), BAD);
        due("no set", x.sink(0, 1, 4, 0), BAD);
        due("no set", x.sink(0, 1, 0, -1), BAD);
        due("sharing a STONE", x.sink(0, 1, 2, 2), BAD);
        due("as it was", x.count(2), 4);
        due("nobody yet", new PairStairs().sink(0, 1, 0, 0), BAD);
    }

    private static void best() {
        PairStairs x = of("x0 o1 o2 o3 o4 g20 g23 g20 t30 t31 g60");
        told(x, "with none", x.best(0, 2), 0, 0);
        told(x, "of like ones the first", x.best(0, 1), 0, 48);
        told(x, "the other way", x.best(1, 0), 0, 3);
        told(x, "TWINS", x.best(3, 4), 0, 0);
        told(x, "with all", x.best(5, 0), 30, 15);
        told(x, "with all", x.best(0, 5), 30, 240);
        x = of("x9 o5 o9 g20 g23 g20 g25");
        due("go", x.go(2, 3, 1, 0), 0);
        told(x, "one STONE is away", x.best(1, 0), 3, 0);
        told(x, "the other end", x.best(3, 2), 0, 1);
        due("not at one end", x.best(0, 2), STATE);
        due("oneself", x.best(0, 0), BAD);
        due("nobody", x.best(0, 4), BAD);
        due("nobody", x.best(-1, 0), BAD);
        due("asked as it was", x.asked(), 1);
        x = of("x0 o9 g20 g40");
        told(x, "above the LIMIT", x.best(0, 1), 11, 16);
    }

    private static void pairs() {
        PairStairs x = new PairStairs();
        told(x, "no PEOPLE", x.pairs(), 0, NONE);
        x = of("x1 o4 g20 g40 g24 g44 g45");
        told(x, "pairs", x.pairs(), 4, 2);
        due("go", x.go(0, 2, 1, 0), 0);
        told(x, "pairs at both ends", x.pairs(), 2, 2);
        x.go(2, 0, 0, 0);
        due("no go without the STONE", x.count(2), 1);
        x = of("x0 g20 g40 g24 g44 g45 g46");
        told(x, "none", x.pairs(), 0, NONE);
        x = of("x0 g20 g40 g24 g44 g46 g46");
        told(x, "the last", x.pairs(), 1, 29);
        x = of("x9 g20 g20 g20 g20 g20 g20");
        told(x, "all", x.pairs(), 15, 1);
    }

    private static void match() {
        PairStairs x = new PairStairs();
        due("no PEOPLE", x.match(), STATE);
        x = of("x0 o5 g10 g15 g20 g25");
        told(x, "one STONE for one pair", x.match(), 1, 3);
        x = of("x0 o5 o5 g10 g15 g20 g25");
        told(x, "two STONES", x.match(), 2, 15);
        x = of("x0 o5 g10 g20 g20 g40 g45 g10");
        told(x, "all", x.match(), 3, 63);
        x = of("x0 o5 o2 g10 g15 g17 g60 g15 g99");
        told(x, "the least number", x.match(), 2, 0b010111);
        x = of("x0 g10 g20 g30");
        told(x, "none", x.match(), 0, 0);
        x = of("x0 o5 o5 g10 g15 g20 g25 g70 g70");
        due("go", x.go(0, 1, 1, 0), 0);
        told(x, "at both ends", x.match(), 3, 63);
        due("go", x.go(4, 5, 0, 2), SPENT);
        due("go", x.go(2, 3, 2, 0), 0);
        due("go", x.go(0, 1, 1, 0), 0);
        due("go", x.go(2, 3, 2, 0), 0);
        due("go", x.go(0, 1, 1, 0), 0);
        told(x, "a STONE at each end", x.match(), 3, 63);
        x = of("x0 o5 g10 g15 g20 g25 g10 g10");
        due("go", x.go(4, 5, 0, 0), 0);
        told(x, "one STONE, another end", x.match(), 2, 0b110011);
    }

    private static void waits() {
        due("nobody", new PairStairs().waits(0), BAD);
        PairStairs x = of("x3 o4 o9 g20 t60 c03 n99 g20 g23");
        due("with STONES", x.waits(0), 4);
        due("a TWIN waits for a GUEST", x.waits(1), 44);
        due("the least of all", x.waits(2), 1);
        due("a CANON", x.waits(3), 88);
        due("go", x.go(4, 5, 3, 0), SPENT);
        due("go", x.go(4, 5, 2, 1), 2);
        due("without STONES", x.waits(0), 17);
        due("at the other end", x.waits(4), 4);
        due("nobody", x.waits(6), BAD);
        due("nobody", x.waits(-1), BAD);
        x = of("x0 n99 g99 b03");
        due("of none", x.waits(0), NONE);
        due("just one", x.waits(1), 99);
        due("of none that light", x.waits(2), NONE);
    }

    private static void worth() {
        PairStairs x = new PairStairs();
        due("no PEOPLE", x.worth(), STATE);
        x = of("x0 g10 g10");
        told(x, "no STONES", x.worth(), NONE, 0);
        x = of("x0 o5 o3 g10 g13 g30 g33 g50 g55");
        told(x, "the second", x.worth(), 1, 2);
        x = of("x0 o5 o5 g10 g15 g30 g33 g50 g55");
        told(x, "the first of none", x.worth(), 0, 0);
        x = of("x0 o5 o3 g10 g18 g30 g38 g50 g58");
        told(x, "both alike", x.worth(), 0, 3);
        x = of("x0 o5 o3 g10 g10 g30 g33 g50 g53");
        due("go", x.go(0, 1, 3, 0), SPENT);
        due("go", x.go(2, 3, 2, 0), 0);
        told(x, "at the other end", x.worth(), 1, 1);
    }

    private static void loaves() {
        PairStairs x = of("x1 o9 n20 g30 g33 g34 g36 n10");
        due("at once", of("x1 g30 g30").loaves(0, 1), 0);
        due("some", x.loaves(0, 1), 4);
        due("the other way", x.loaves(2, 0), 7);
        due("more", x.loaves(0, 3), 8);
        due("by none", x.loaves(0, 4), NONE);
        due("two CANONS", x.loaves(0, 5), NONE);
        loavesEaten(x, 3);
        due("fewer more", x.loaves(0, 1), 1);
        due("all that are left", x.loaves(0, 3), 5);
        loavesEaten(x, 2);
        due("none but these", x.loaves(0, 4), NONE);
        due("at once", x.loaves(0, 1), 0);
        due("go", x.go(0, 1, 0, 0), 0);
        due("not at one end", x.loaves(0, 2), STATE);
        due("up", x.loaves(1, 0), 0);
        loavesEaten(x, 4);
        due("too heavy now", x.loaves(0, 1), NONE);
        due("oneself", x.loaves(0, 0), BAD);
        due("nobody", x.loaves(0, 6), BAD);
        due("nobody", x.loaves(-1, 0), BAD);
        x = of("x0 n20 g34");
        due("the ninth", x.loaves(0, 1), 9);
    }

    // ---- 4 goes to come

    private static void up() {
        PairStairs x = new PairStairs();
        told(x, "none of none", x.up(0), 0, NONE);
        due("none such", x.up(1), BAD);
        x = of("x0 g10 g10 g10");
        told(x, "nobody", x.up(0), 0, NONE);
        told(x, "one", x.up(1), 1, 1);
        told(x, "the last", x.up(4), 1, 2);
        told(x, "never all", x.up(7), NONE, 2);
        due("below none", x.up(-1), BAD);
        due("too many", x.up(8), BAD);
        x.go(1, 2, 0, 0);
        told(x, "up already", x.up(6), 0, NONE);
        told(x, "one to come down", x.up(1), 2, 8);
        due("nothing is done", x.count(2), 1);
        // the STONE must not go with the first two, or the next two would have none
        x = of("x0 o5 g10 g15 g30 g35 g10 g15");
        told(x, "the STONE waits", x.up(15), 3, 4);
        told(x, "both others", x.up(12), 1, 15);
        told(x, "all", x.up(63), 3, 4);
        due("the STONE goes", x.go(0, 1, 1, 0), 0);
        told(x, "it comes down again", x.up(12), 2, 1);
        told(x, "and all go", x.up(15), 4, 1);
        x = of("x0 o5 g10 g15 g30 g35");
        told(x, "the STONE stays up", x.up(15), NONE, 0);
        x = of("x0 o5 g10 g15 g15 g15");
        told(x, "all with one STONE", x.up(15), 2, 1);
        x = of("x9 g10 g30 g50 g70 g31 g32");
        told(x, "far from each other", x.up(5), NONE, 0);
    }

    private static void down() {
        PairStairs x = new PairStairs();
        told(x, "none of none", x.down(0), 0, NONE);
        due("none such", x.down(1), BAD);
        x = of("x0 g10 g10 g10 g20");
        told(x, "down already", x.down(15), 0, NONE);
        x.go(1, 2, 0, 0);
        told(x, "one", x.down(2), 1, 8);
        told(x, "both", x.down(7), 1, 8);
        told(x, "nobody", x.down(0), 0, NONE);
        due("below none", x.down(-1), BAD);
        due("too many", x.down(16), BAD);
        x = of("x0 n05 g10 g20");
        x.go(0, 1, 0, 0);
        x.loaf();
        told(x, "by none: LOAVES stay", x.down(1), NONE, 0);
        told(x, "by none: LOAVES stay", x.down(3), NONE, 0);
        told(x, "one who is down", x.down(4), 0, NONE);
        due("up", x.count(4), 3);
    }

    private static void ever() {
        due("no PEOPLE", new PairStairs().ever(), STATE);
        due("some", of("x0 g10 g20 g10 g30 g25").ever(), 5);
        due("with a STONE", of("x0 o5 g10 g20 g10 g30 g25").ever(), 0b11111);
        due("none", of("x0 g10 g20").ever(), 0);
        PairStairs x = of("x0 n05 g10 g11 g11");
        x.go(0, 1, 0, 0);
        x.loaf();
        due("with another one", x.ever(), 13);
        x.loaf();
        due("LOAVES stay", x.ever(), 12);
        x.undo(2);
        due("with another one again", x.ever(), 13);
        x.undo(1);
        due("as it was", x.ever(), 15);
        due("nothing is done", x.count(2), 1);
    }

    // ---- 5 by how far it sank

    private static void refusesWeighing(java.util.function.IntBinaryOperator call, PairStairs x) {
        found(x, "missing", call.applyAsInt(0, 0), NOTHING);
        due("no row", call.applyAsInt(0, 6), BAD);
        due("no row", call.applyAsInt(0, -1), BAD);
        due("nobody", call.applyAsInt(3, 0), BAD);
        due("nobody", call.applyAsInt(-1, 0), BAD);
        fill(x, 0, 1);
        found(x, "no pairs", call.applyAsInt(0, 0), SIZE);
        x.row(0, 18);
        found(x, "too many pairs", call.applyAsInt(0, 0), SIZE);
        x.row(0, 17);
        found(x, "too many, no pairs", call.applyAsInt(0, 0), SIZE);
        fill(x, 0, 0, 5);
        found(x, "oneself", call.applyAsInt(0, 0), UNLIKE);
        fill(x, 0, 3, 5);
        found(x, "nobody", call.applyAsInt(0, 0), UNLIKE);
        fill(x, 0, -1, 5);
        found(x, "nobody", call.applyAsInt(0, 0), UNLIKE);
        fill(x, 0, 1, 5, 2, 201);
        found(x, "too far", call.applyAsInt(0, 0), UNLIKE);
        fill(x, 0, 1, -1);
        found(x, "below none", call.applyAsInt(0, 0), UNLIKE);
        due("BAD ahead of UNLIKE", call.applyAsInt(3, 0), BAD);
        fill(x, 0, 1, 200);
        due("as far as can be", call.applyAsInt(0, 0) == FINDING ? 1 : 0, 0);
        fill(x, 0, 1, 0, 1, 0, 1, 0, 1, 0, 1, 0, 1, 0, 1, 0, 1, 0);
        due("eight pairs", call.applyAsInt(0, 0) == FINDING ? 1 : 0, 0);
    }

    private static void pounds() {
        PairStairs x = of("x3 g20 t30 n25");
        refusesWeighing(x::pounds, x);
        x = of("x3 t20 t30 g21 c50 n20 b30");
        x.row(0, 0);
        told(x, "no pairs", x.pounds(0, 0), 99, 1);
        fill(x, 0, 1, 4);
        told(x, "a TWIN by a TWIN", x.pounds(0, 0), 4, 21);
        told(x, "a GUEST by a TWIN", x.pounds(2, 0), 2, 26);
        fill(x, 0, 1, 4, 2, 1);
        told(x, "a TWIN by two", x.pounds(0, 0), 1, 22);
        fill(x, 0, 2, 0);
        told(x, "a CHILD", x.pounds(3, 0), 2, 42);
        told(x, "a BUNDLE", x.pounds(5, 0), 4, 84);
        told(x, "a CANON", x.pounds(4, 0), 1, 16);
        loavesEaten(x, 2);
        told(x, "a CANON with LOAVES", x.pounds(4, 0), 1, 14);
        fill(x, 0, 2, 100);
        told(x, "none", x.pounds(0, 0), 0, NONE);
        fill(x, 0, 4, 26);
        told(x, "by a CANON", x.pounds(2, 0), 2, 1);
    }

    private static void kinds() {
        PairStairs x = of("x3 g20 t30 n25");
        refusesWeighing(x::kinds, x);
        x = of("x3 g20 t30 g40 n15");
        x.row(0, 0);
        due("no pairs", x.kinds(0, 0), 63);
        fill(x, 0, 2, 20);
        due("GUEST or TWIN", x.kinds(0, 0), 3);
        fill(x, 0, 1, 5);
        due("TWIN, LAME or CANON", x.kinds(0, 0), 0b011010);
        loavesEaten(x, 1);
        due("TWIN or LAME", x.kinds(0, 0), 0b001010);
        fill(x, 0, 1, 10);
        due("GUEST", x.kinds(0, 0), 1);
        fill(x, 0, 1, 20);
        due("CHILD", x.kinds(0, 0), 4);
        fill(x, 0, 1, 25);
        due("BUNDLE", x.kinds(0, 0), 32);
        fill(x, 0, 1, 4);
        due("CANON", x.kinds(0, 0), 16);
        fill(x, 0, 1, 4, 2, 20);
        due("none", x.kinds(0, 0), 0);
        fill(x, 0, 3, 1);
        due("by a CANON with a LOAF", x.kinds(0, 0), 3);
    }

    private static void next() {
        PairStairs x = of("x3 g20 t30 n25");
        refusesWeighing(x::next, x);
        x = of("x3 g20 t30 g40 n15 g25");
        x.row(0, 0);
        told(x, "no pairs", x.next(0, 0), 2, 2);
        fill(x, 0, 2, 20);
        told(x, "a TWIN tells", x.next(0, 0), 1, 1);
        told(x, "for another one: none", x.next(4, 0), NONE, 1);
        fill(x, 0, 2, 21);
        told(x, "none", x.next(0, 0), NONE, 0);
        x = of("x3 g20 g40 t40 t20 g25 t99");
        fill(x, 0, 1, 20);
        told(x, "the first of the best", x.next(0, 0), 2, 1);
        x = of("x3 g40 g20 t22");
        x.row(0, 0);
        told(x, "LAME or CANON", x.next(0, 0), 1, 2);
        loavesEaten(x, 1);
        told(x, "LOAVES tell", x.next(0, 0), 2, 1);
        x = of("x3 g20 g20 g60");
        fill(x, 0, 1, 0);
        told(x, "alike with all", x.next(0, 0), 1, 2);
    }

    // ---- 6 by turns

    private static void send() {
        due("no PEOPLE", new PairStairs().send(0), STATE);
        due("BAD ahead of STATE", new PairStairs().send(3), BAD);
        PairStairs x = of("x0 g10 g10 g20 g20");
        due("none", x.send(0), 0);
        due("up and down", x.send(1), 0);
        due("twice", x.send(2), 0);
        due("below none", x.send(-1), BAD);
        due("too often", x.send(3), BAD);
        x.go(0, 1, 0, 0);
        due("as it is", x.send(0), 2);
        due("up and one pair down", x.send(1), 2);
        x.go(2, 3, 0, 0);
        due("one pair down", x.send(1), 2);
        due("up again, down again", x.send(2), 2);
        due("nothing is done", x.count(2), 2);
        x = of("x0 o5 g10 g15 g20 g20");
        due("no STONES", x.send(1), 0);
        x.go(0, 1, 1, 0);
        due("who can't come down", x.send(1), 2);
        due("who can't come down", x.send(2), 2);
        // three of a like weight: one can be saved by what cannot go in a pair
        x = of("x0 g10 g10 g10");
        due("three", x.send(1), 0);
        due("three", x.send(2), 0);
        x = of("x0 n05 g10 g11 g11");
        x.go(0, 1, 0, 0);
        x.loaf();
        due("a CANON too heavy to come down with", x.send(1), 2);
    }

    // ---- 7 chances, lots

    private static void odds() {
        due("nobody", new PairStairs().odds(0, 1, 1), BAD);
        PairStairs x = of("x0 o5 o5 g10 g15 g10 g20 g25");
        shares(x, "no STONES needed", x.odds(0, 2, 7), 1, 1);
        shares(x, "none lost", x.odds(0, 1, 0), 1, 1);
        shares(x, "all lost", x.odds(0, 1, 12), 0, 1);
        shares(x, "one of two", x.odds(0, 1, 6), 3, 4);
        shares(x, "one of two", x.odds(1, 0, 1), 143, 144);
        shares(x, "both", x.odds(0, 3, 6), 1, 4);
        shares(x, "both", x.odds(0, 3, 2), 25, 36);
        shares(x, "never", x.odds(0, 4, 2), 0, 1);
        due("oneself", x.odds(0, 0, 1), BAD);
        due("nobody", x.odds(0, 5, 1), BAD);
        due("nobody", x.odds(-1, 0, 1), BAD);
        due("too many", x.odds(0, 1, 13), BAD);
        due("too few", x.odds(0, 1, -1), BAD);
        due("go", x.go(1, 3, 1, 0), 0);
        due("not at one end", x.odds(0, 1, 1), STATE);
        shares(x, "one STONE there", x.odds(1, 3, 3), 3, 4);
        shares(x, "none needed", x.odds(0, 2, 3), 1, 1);
        shares(x, "too far", x.odds(0, 4, 3), 0, 1);
        due("nothing is done", x.count(2), 1);
    }

    private static void mid() {
        due("nobody", new PairStairs().mid(0, 1, 1), BAD);
        PairStairs x = of("x0 o5 o3 g10 g15 g10 g20 t41 t30");
        shares(x, "none lost", x.mid(0, 1, 0), 0, 1);
        shares(x, "all lost", x.mid(0, 1, 12), 5, 1);
        shares(x, "half", x.mid(0, 1, 6), 7, 4);
        shares(x, "a twelfth", x.mid(1, 0, 1), 3, 16);
        shares(x, "a great gap", x.mid(0, 3, 6), 6, 1);
        shares(x, "TWINS", x.mid(4, 5, 6), 13, 4);
        shares(x, "none needed", x.mid(0, 2, 7), 0, 1);
        due("oneself", x.mid(0, 0, 1), BAD);
        due("nobody", x.mid(6, 0, 1), BAD);
        due("too many", x.mid(0, 1, 13), BAD);
        due("too few", x.mid(0, 1, -1), BAD);
        due("go", x.go(0, 1, 1, 0), 0);
        due("not at one end", x.mid(0, 2, 1), STATE);
        shares(x, "one STONE there", x.mid(0, 1, 3), 5, 4);
    }

    private static void lots() {
        due("no PEOPLE", new PairStairs().lots(1, 1), STATE);
        due("BAD ahead of STATE", new PairStairs().lots(0, 1), BAD);
        PairStairs x = of("x0 g10 g10");
        due("too few", x.lots(0, 1), BAD);
        due("too many", x.lots(21, 1), BAD);
        due("no seed", x.lots(1, 0), BAD);
        due("no seed", x.lots(1, MAX), BAD);
        due("no seed", x.lots(1, -1), BAD);
        // 48271: by 8 is 6033, modulo 4 is 1; 48271 modulo 2 is 1; by 64 is 754, modulo 2 is 0: 1 and 0 GO
        due("a GO", x.lots(1, 1), 2);
        due("deeds", x.count(2), 1);
        // 2 * 48271 = 96542: by 8 is 12067, modulo 4 is 3; modulo 2 is 0; by 64 is 1508, modulo 2 is 0: nothing
        due("nothing", x.lots(1, 2), 2);
        due("deeds", x.count(2), 2);
        // 32 * 48271 = 1544672: by 8 is 193084, modulo 4 is 0: a LOAF
        due("a LOAF", x.lots(1, 32), 2);
        due("loaves", x.count(3), 1);
        loavesEaten(x, 8);
        due("loaves", x.count(3), 9);
        due("no LOAF, but a DEED", x.lots(1, 32), 2);
        due("loaves", x.count(3), 9);
        due("deeds", x.count(2), 12);
        due("fill up", x.lots(20, 77) < 0 ? 1 : 0, 0);
        due("FULL", x.lots(9, 1), FULL);
        due("BAD ahead of FULL", x.lots(9, 0), BAD);
        due("the last ones", x.lots(8, 2147483646) < 0 ? 1 : 0, 0);
        due("FULL", x.lots(1, 1), FULL);
        lotsInARow();
    }

    private static void lotsInARow() {
        // 48271, 182605794: by 8 is 22825724, modulo 4 is 0: a LOAF
        PairStairs x = of("x1 o3 o5 g10 g14");
        due("with STONES by best()", x.lots(1, 1), 2);
        due("the first best STONE", x.count(5), 1);
        due("steps", x.count(7), 1);
        x.undo(0);
        due("two", x.lots(2, 1), 2);
        due("a LOAF behind it", x.count(3), 1);
        due("deeds", x.count(2), 2);
        // one who CAN'T: 1 and 0 again
        x = of("x0 g10 g14");
        due("they CAN'T", x.lots(1, 1), 0);
        due("a DEED, too", x.count(2), 1);
        // 48271 modulo 3 is 1, 754 modulo 3 is 1: unlike ones it must be
        x = of("x0 g10 g10 g10");
        due("one alone", x.lots(1, 1), 0);
        // not at one end: 1 and 0 of four: 48271 modulo 4 is 3, 754 modulo 4 is 2
        x = of("x0 g10 g10 g10 g10");
        due("3 and 2", x.lots(1, 1), 2);
        due("who", x.count(4), 12);
        due("down", x.lots(1, 1), 0);
        x.go(0, 3, 0, 0);
        due("not at one end", x.lots(1, 1), 2);
        due("who", x.count(4), 9);
    }

    // ---- 8 what is told

    private static void asked() {
        PairStairs x = new PairStairs();
        due("nothing yet", x.asked(), 0);
        fill(x, 0, 7, 8);
        told(x, "at", x.at(0, 1), 1, 8);
        told(x, "lay", x.lay(0, 0, 9), 1, 7);
        told(x, "mean", x.mean(0), 1, 8);
        x.at(0, 2);
        x.mean(1);
        x.lay(0, -1, 2);
        due("refused", x.asked(), 8);
        write(x, 0, "x0 o5 g10 g15 g10");
        x.tower(0);
        told(x, "one", x.one(0, 1), 1, 10);
        told(x, "best", x.best(0, 1), 0, 16);
        told(x, "pairs", x.pairs(), 3, 1);
        told(x, "match", x.match(), 1, 3);
        told(x, "worth", x.worth(), 0, 2);
        told(x, "up", x.up(4), 1, 2);
        told(x, "down", x.down(4), 0, NONE);
        x.row(0, 0);
        told(x, "pounds", x.pounds(0, 0), 99, 1);
        told(x, "next", x.next(0, 0), 1, 2);
        x.best(0, 0);
        x.up(8);
        x.one(3, 0);
        x.pounds(0, 1);
        due("refused", x.asked(), 2);
        x.up(7);
        due("NONE", x.asked(), 2);
        x.waits(0);
        x.kinds(0, 0);
        x.ever();
        x.sink(0, 1, 0, 0);
        x.mark(0, 1);
        x.loaves(0, 1);
        x.odds(0, 1, 1);
        x.send(1);
        x.lots(3, 3);
        x.digest();
        x.undo(0);
        x.copy(0, 0, 0, 0, 0);
        x.count(1);
        due("others tell nothing", x.asked(), 2);
    }

    private static void upper() {
        PairStairs x = of("x0 o5 g10 g15");
        due("nothing yet", x.upper(), 0);
        x.odds(0, 1, 3);
        due("odds", x.upper(), 3);
        x.mid(0, 1, 3);
        due("mid", x.upper(), 5);
        x.mid(0, 0, 3);
        x.odds(0, 1, 13);
        due("refused", x.upper(), 5);
        x.odds(0, 1, 12);
        due("none", x.upper(), 0);
    }

    private static void lower() {
        PairStairs x = of("x0 o5 g10 g15");
        due("nothing yet", x.lower(), 1);
        x.odds(0, 1, 5);
        due("odds", x.lower(), 12);
        x.mid(0, 1, 3);
        due("mid", x.lower(), 4);
        x.mid(0, 0, 3);
        x.odds(0, 1, 13);
        due("refused", x.lower(), 4);
        x.odds(0, 1, 12);
        due("none: 0 by 1", x.lower(), 1);
    }

    private static void count() {
        PairStairs x = of("x9 o4 o9 c20 b60 g14 l20 n20 t30");
        x.go(0, 2, 1, 0);
        x.go(3, 4, 0, 0);
        x.go(3, 4, 0, 0);
        x.loaf();
        x.loaf();
        due("one with a LOAF", x.go(3, 4, 0, 2), SPENT);
        due("go", x.go(3, 4, 2, 0), 7);
        x.keep(0);
        x.keep(2);
        x.row(0, 3);
        x.row(3, 3);
        x.row(5, 0);
        x.text(3, 0);
        int[] want = {6, 2, 6, 2, 0b011101, 3, 9, 7, 2, 2, 3, 2, 2};
        for (int what = 0; what <= 12; what++) {
            due("count " + what, x.count(what), want[what]);
        }
        due("none such", x.count(13), BAD);
        due("none such", x.count(-1), BAD);
        due("none such", x.count(MAX), BAD);
    }

    private static void finding() {
        PairStairs x = new PairStairs();
        due("none yet", x.finding(), 0);
        x.row(-1, 0);
        due("BAD is none", x.finding(), 0);
        x.at(0, 0);
        due("NOTHING", x.finding(), NOTHING);
        x.row(0, 0);
        due("it stays", x.finding(), NOTHING);
        x.at(0, 0);
        due("BEYOND", x.finding(), BEYOND);
        x.mean(0);
        due("NOUGHT", x.finding(), NOUGHT);
        x.row(0, -1);
        due("SIZE", x.finding(), SIZE);
        write(x, 0, "x0 g10 g10");
        x.tower(0);
        x.mark(0, 1);
        due("UNLIKE", x.finding(), UNLIKE);
        x.go(0, 0, 0, 0);
        x.loaves(0, 1);
        due("it stays", x.finding(), UNLIKE);
    }

    private static void findings() {
        PairStairs x = new PairStairs();
        for (int f = 1; f <= 5; f++) {
            due("none yet", x.findings(f), 0);
        }
        x.at(0, 0);
        x.on(0);
        x.fault(0);
        x.tower(0);
        x.row(0, 0);
        x.at(0, 0);
        x.copy(0, 1, 0, 0, 0);
        x.mean(0);
        x.row(0, -1);
        x.text(0, -1);
        x.copy(0, 0, 0, 0, -1);
        write(x, 0, "x0 g10 g10");
        x.tower(0);
        x.mark(0, 1);
        x.mark(0, 0);
        int[] want = {0, 4, 2, 1, 1, 3};
        for (int f = 1; f <= 5; f++) {
            due("findings " + f, x.findings(f), want[f]);
        }
        due("none such", x.findings(0), BAD);
        due("none such", x.findings(6), BAD);
        due("none such", x.findings(MIN), BAD);
    }

    private static long digestOf(long... values) {
        long h = 17;
        for (long v : values) {
            h = 31 * h + v;
        }
        return h;
    }

    private static void digest() {
        due("of a new object", new PairStairs().digest(),
            digestOf(0, 0, 0, 0, 0, 0, 0, 0, 0, 0, 0, 0, 0, -1, -1, -1, -1, -1, -1, -1, -1, -1, -1, -1, -1, -1));
        PairStairs x = of("x1 o5 g10 t14");
        x.go(0, 1, 1, 0);
        x.keep(1);
        x.loaf();
        fill(x, 2, -7, 8);
        x.text(3, 2);
        x.put(3, 0, -5);
        x.text(0, 0);
        x.mean(2);
        long due = digestOf(2, 1, 2, 1, 3, 1, 1, 1, 0, 0, 1, 2, 1,
            5, 0, 10, 10, 1, 2, 1, 14, 14, 1, 1,
            -1, 1, -1,
            -1, -1, 2, -7, 8, -1, -1, -1,
            0, -1, -1, 2, -5, 32);
        due("of all", x.digest(), due);
        due("asked stays", x.asked(), 0);
        x.at(2, 1);
        x.row(5, -1);
        due("again", x.digest(), due);
        due("asked stays", x.asked(), 8);
    }

    private PromiseTests() {
    }
}
