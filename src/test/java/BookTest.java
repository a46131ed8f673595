/** Promises 1 to 11 and 26: the facts, the lines, and the law that they make. */
public final class BookTest {
    private static final Due due = new Due("BookTest");
    private static final int LEAST = Integer.MIN_VALUE, GREATEST = Integer.MAX_VALUE;

    public static void main(String[] args) {
        newObject();
        factsAnew();
        factsForgetAllButGoal();
        barredFacts();
        barredKinds();
        lines();
        linesRefused();
        exceptions();
        exceptionsRefused();
        exceptedFromStaysSilent();
        repeal();
        about();
        namedThroughChains();
        holds();
        holdsThroughChains();
        law();
        open();
        idle();
        idleOverKindsAlone();
        told();
        due.end();
    }

    private static void newObject() {
        due.promise(1);
        BallCourt x = new BallCourt();
        int[] first = {4, 16, 0, 0, 0, 5, 0};
        for (int what = 0; what < first.length; what++) {
            due.is("told(" + what + ")", x.told(what), first[what]);
        }
        due.is("open(-1)", x.open(-1), 16);
        for (int a = 0; a < 4; a++) {
            for (int b = a + 1; b < 4; b++) {
                due.is("barred(" + a + ", " + b + ", false)", x.barred(a, b, false), 0);
            }
        }
        due.is("score(0, 3)", x.score(0, 3), BallCourt.NONE);
        due.is("turned()", x.turned(), 0);
    }

    private static void factsAnew() {
        due.promise(2);
        BallCourt x = new BallCourt();
        for (int n : new int[] {0, 8, -1, LEAST, GREATEST}) {
            due.is("facts(" + n + ")", x.facts(n), BallCourt.OUTSIDE);
            due.is("told(0)", x.told(0), 4);
        }
        int before = 4;
        for (int n : new int[] {1, 7, 2, 6, 3, 5, 4, 4}) {
            due.is("facts(" + n + ")", x.facts(n), before);
            due.is("told(0)", x.told(0), n);
            due.is("told(1)", x.told(1), 1 << n);
            due.is("open(-1)", x.open(-1), 1 << n);
            before = n;
        }
    }

    private static void factsForgetAllButGoal() {
        due.promise(2);
        BallCourt x = new BallCourt();
        x.goal(9);
        x.barred(0, 1, true);
        x.line(1, 0, 2);
        x.line(0, 0, 1);
        x.except(1, 0);
        x.repeal(0, true);
        x.moment();
        for (int fact = 0; fact < 4; fact++) {
            x.tell(0, 0, fact, 0);
        }
        x.tell(0, 1, 3, 1);
        x.tell(0, 0, 3, 2);
        x.rule(0, 3);
        due.is("make(0)", x.make(0), 0);
        due.is("facts(0)", x.facts(0), BallCourt.OUTSIDE);
        due.is("told(2), facts refused", x.told(2), 2);
        due.is("told(4), facts refused", x.told(4), 1);
        due.is("facts(4)", x.facts(4), 4);
        int[] now = {4, 16, 0, 0, 0, 9, 0};
        for (int what = 0; what < now.length; what++) {
            due.is("told(" + what + ")", x.told(what), now[what]);
        }
        due.is("about(0, 0)", x.about(0, 0), BallCourt.UNKNOWN);
        due.is("ofCase(0, 0)", x.ofCase(0, 0), BallCourt.UNKNOWN);
        due.is("verdict(0)", x.verdict(0), BallCourt.UNKNOWN);
        due.is("law(1, 0)", x.law(1, 0), BallCourt.NONE);
        due.is("barred(0, 1, false)", x.barred(0, 1, false), 0);
        // What is made anew bears nothing of what was there ahead.
        due.is("line(0, 0, 4)", x.line(0, 0, 4), 0);
        due.is("line(0, 0, 3)", x.line(0, 0, 3), 1);
        due.is("about(0, 3)", x.about(0, 3), 0);
        due.is("about(0, 4)", x.about(0, 4), 0);
        x.repeal(0, true);
        due.is("law(0, 0)", x.law(0, 0), 1);
        due.is("moment()", x.moment(), 0);
        due.is("known(0, 2)", x.known(0, 2), 15);
        due.is("verdict(0)", x.verdict(0), 3);
        due.is("binds(0)", x.binds(0), BallCourt.NONE);
        due.is("turned()", x.turned(), 0);
    }

    private static void barredFacts() {
        due.promise(3);
        BallCourt x = new BallCourt();
        due.is("barred(0, 3, true)", x.barred(0, 3, true), 0);
        due.is("barred(0, 3, true) again", x.barred(0, 3, true), 1);
        due.is("barred(3, 0, true)", x.barred(3, 0, true), 1);
        due.is("barred(1, 3, true)", x.barred(1, 3, true), 0);
        due.is("barred(3, 0, false)", x.barred(3, 0, false), 1);
        due.is("barred(0, 3, false)", x.barred(0, 3, false), 0);
        due.is("barred(1, 3, false)", x.barred(1, 3, false), 1);
        int[][] bad = {{0, 0}, {3, 3}, {0, 4}, {4, 0}, {-1, 0}, {0, -1}, {5, 5}, {LEAST, 0}, {0, GREATEST}, {32, 0}};
        for (int[] pair : bad) {
            due.is("barred(" + pair[0] + ", " + pair[1] + ")", x.barred(pair[0], pair[1], true), BallCourt.UNKNOWN);
            due.is("told(1)", x.told(1), 16);
        }
        x.facts(1);
        due.is("barred(0, 1) of one fact", x.barred(0, 1, true), BallCourt.UNKNOWN);
        x.facts(7);
        due.is("barred(6, 5) of seven", x.barred(6, 5, true), 0);
        due.is("told(1)", x.told(1), 96);
    }

    private static void barredKinds() {
        due.promise(3);
        BallCourt x = new BallCourt();
        x.line(0, 0, 1);
        x.barred(0, 1, true);
        due.is("told(1)", x.told(1), 12);
        due.is("told(6)", x.told(6), 12);
        for (int kind = 0; kind < 16; kind++) {
            boolean none = (kind & 3) == 3;
            due.is("law(" + kind + ", 1)", x.law(kind, 1), none ? BallCourt.OUTSIDE : 1);
            due.is("holds(0, " + kind + ")", x.holds(0, kind), none ? BallCourt.OUTSIDE : 1);
        }
        x.barred(2, 3, true);
        due.is("told(1), two pairs", x.told(1), 9);
        x.barred(1, 2, true);
        due.is("told(1), three pairs", x.told(1), 8);
        due.is("law(6, 1)", x.law(6, 1), BallCourt.OUTSIDE);
        due.is("law(9, 1)", x.law(9, 1), 1);
        x.barred(1, 0, false);
        due.is("told(1), back to two", x.told(1), 10);
        due.is("law(3, 1)", x.law(3, 1), 1);
        x.facts(4);
        x.barred(0, 1, true);
        x.barred(0, 2, true);
        x.barred(3, 0, true);
        due.is("told(1), one fact against three", x.told(1), 9);
        due.is("barred(0, 1, true)", x.barred(0, 1, true), 1);
        due.is("barred(2, 0, true)", x.barred(2, 0, true), 1);
    }

    private static void lines() {
        due.promise(4);
        BallCourt x = new BallCourt();
        for (int n = 0; n < 12; n++) {
            due.is("line(" + n + ", " + (15 - n) + ", " + n % 5 + ")", x.line(n, 15 - n, n % 5), n);
        }
        due.is("line(0, 0, 0), a 13th", x.line(0, 0, 0), BallCourt.FULL);
        due.is("line(1, 1, 0), a 13th", x.line(1, 1, 0), BallCourt.OUTSIDE);
        due.is("told(2)", x.told(2), 12);
        for (int n = 0; n < 12; n++) {
            due.is("about(" + n + ", 0)", x.about(n, 0), n);
            due.is("about(" + n + ", 1)", x.about(n, 1), 15 - n);
            due.is("about(" + n + ", 2)", x.about(n, 2), n % 5);
            due.is("law(" + n + ", 0)", x.law(n, 0), n);
        }
        x.repeal(3, true);
        due.is("line(0, 0, 0), one repealed", x.line(0, 0, 0), BallCourt.FULL);
    }

    private static void linesRefused() {
        due.promise(4);
        BallCourt x = new BallCourt();
        int[][] bad = {{16, 0, 0}, {0, 16, 0}, {-1, 0, 0}, {0, -1, 0}, {1, 1, 0}, {7, 12, 0}, {0, 0, 5}, {0, 0, -1},
            {LEAST, 0, 0}, {0, LEAST, 0}, {0, 0, LEAST}, {GREATEST, 0, 0}, {0, GREATEST, 0}, {0, 0, GREATEST}};
        for (int[] b : bad) {
            due.is("line(" + b[0] + ", " + b[1] + ", " + b[2] + ")", x.line(b[0], b[1], b[2]), BallCourt.OUTSIDE);
        }
        due.is("told(2)", x.told(2), 0);
        due.is("line(15, 0, 4)", x.line(15, 0, 4), 0);
        due.is("line(0, 15, 0)", x.line(0, 15, 0), 1);
        x.facts(7);
        due.is("line(127, 0, 0)", x.line(127, 0, 0), 0);
        due.is("line(128, 0, 0)", x.line(128, 0, 0), BallCourt.OUTSIDE);
        x.facts(1);
        due.is("line(1, 0, 0)", x.line(1, 0, 0), 0);
        due.is("line(2, 0, 0)", x.line(2, 0, 0), BallCourt.OUTSIDE);
    }

    private static void exceptions() {
        due.promise(5);
        BallCourt x = new BallCourt();
        x.line(0, 0, 1);
        x.line(1, 0, 2);
        x.line(2, 0, 3);
        x.line(4, 0, 4);
        due.is("except(3, 0)", x.except(3, 0), 1);
        due.is("except(1, 0)", x.except(1, 0), 2);
        x.repeal(1, true);
        due.is("except(2, 0), one repealed", x.except(2, 0), 3);
        due.is("except(1, 0), repealed", x.except(1, 0), BallCourt.NO);
        due.is("except(3, 1), from a repealed one", x.except(3, 1), 1);
        due.is("except(2, 1)", x.except(2, 1), 2);
        due.is("except(3, 2)", x.except(3, 2), 1);
        due.is("about(0, 4)", x.about(0, 4), 14);
        due.is("about(1, 4)", x.about(1, 4), 12);
        due.is("about(2, 4)", x.about(2, 4), 8);
        due.is("about(3, 4)", x.about(3, 4), 0);
    }

    private static void exceptionsRefused() {
        due.promise(5);
        BallCourt x = new BallCourt();
        x.line(0, 0, 1);
        x.line(0, 0, 2);
        int[][] unknown = {{2, 0}, {0, 2}, {-1, 0}, {1, -1}, {2, 2}, {-1, -1}, {LEAST, 0}, {1, LEAST}, {GREATEST, 0},
            {0, GREATEST}, {12, 0}, {33, 0}};
        for (int[] u : unknown) {
            due.is("except(" + u[0] + ", " + u[1] + ")", x.except(u[0], u[1]), BallCourt.UNKNOWN);
        }
        due.is("except(0, 0)", x.except(0, 0), BallCourt.NO);
        due.is("except(1, 1)", x.except(1, 1), BallCourt.NO);
        due.is("except(0, 1)", x.except(0, 1), BallCourt.NO);
        due.is("law(0, 0), nothing changed", x.law(0, 0), 0);
        due.is("except(1, 0)", x.except(1, 0), 1);
        due.is("except(1, 0) again", x.except(1, 0), BallCourt.NO);
        due.is("about(0, 4)", x.about(0, 4), 2);
        due.is("law(0, 0)", x.law(0, 0), BallCourt.NONE);
    }

    /** A line that excepts from some other gives no ruling, also when that other is repealed. */
    private static void exceptedFromStaysSilent() {
        due.promise(9);
        BallCourt x = new BallCourt();
        x.line(8, 0, 1);
        x.line(1, 0, 2);
        x.except(1, 0);
        due.is("law(1, 0)", x.law(1, 0), BallCourt.NONE);
        due.is("holds(1, 1)", x.holds(1, 1), 1);
        x.repeal(0, true);
        due.is("law(1, 0), the other one repealed", x.law(1, 0), BallCourt.NONE);
        due.is("law(1, 1)", x.law(1, 1), 0);
        due.is("told(6)", x.told(6), 0);
    }

    private static void repeal() {
        due.promise(6);
        BallCourt x = new BallCourt();
        for (int line : new int[] {0, -1, 12, 32, LEAST, GREATEST}) {
            due.is("repeal(" + line + ", true)", x.repeal(line, true), BallCourt.UNKNOWN);
        }
        x.line(0, 0, 1);
        x.line(0, 0, 2);
        due.is("repeal(2, true)", x.repeal(2, true), BallCourt.UNKNOWN);
        due.is("repeal(0, false)", x.repeal(0, false), 0);
        due.is("law(5, 0)", x.law(5, 0), 0);
        due.is("repeal(0, true)", x.repeal(0, true), 0);
        due.is("law(5, 0)", x.law(5, 0), 1);
        due.is("repeal(0, true) again", x.repeal(0, true), 1);
        due.is("law(5, 0)", x.law(5, 0), 1);
        due.is("about(0, 3)", x.about(0, 3), 1);
        due.is("about(1, 3)", x.about(1, 3), 0);
        due.is("repeal(1, true)", x.repeal(1, true), 0);
        due.is("law(5, 0)", x.law(5, 0), BallCourt.NONE);
        due.is("repeal(0, false)", x.repeal(0, false), 1);
        due.is("law(5, 0)", x.law(5, 0), 0);
        due.is("repeal(1, false)", x.repeal(1, false), 1);
        due.is("told(2)", x.told(2), 2);
    }

    private static void about() {
        due.promise(7);
        BallCourt x = new BallCourt();
        due.is("about(0, 0)", x.about(0, 0), BallCourt.UNKNOWN);
        x.line(9, 2, 3);
        int[] all = {9, 2, 3, 0, 0, 11};
        for (int what = 0; what < all.length; what++) {
            due.is("about(0, " + what + ")", x.about(0, what), all[what]);
        }
        for (int what : new int[] {-1, 6, LEAST, GREATEST}) {
            due.is("about(0, " + what + ")", x.about(0, what), BallCourt.OUTSIDE);
            due.is("about(1, " + what + ")", x.about(1, what), BallCourt.UNKNOWN);
        }
        for (int line : new int[] {-1, 1, 12, LEAST, GREATEST}) {
            due.is("about(" + line + ", 0)", x.about(line, 0), BallCourt.UNKNOWN);
        }
    }

    private static void namedThroughChains() {
        due.promise(7);
        BallCourt x = new BallCourt();
        x.facts(7);
        x.line(1, 0, 1);
        x.line(0, 2, 1);
        x.line(4, 0, 1);
        x.line(8, 16, 1);
        x.line(32, 0, 1);
        x.line(0, 64, 1);
        x.except(2, 0);
        x.except(3, 2);
        x.except(4, 1);
        x.except(4, 3);
        due.is("about(0, 5)", x.about(0, 5), 1 + 4 + 8 + 16 + 32);
        due.is("about(1, 5)", x.about(1, 5), 2 + 32);
        due.is("about(2, 5)", x.about(2, 5), 4 + 8 + 16 + 32);
        due.is("about(5, 5)", x.about(5, 5), 64);
        x.repeal(3, true);
        due.is("about(0, 5), the middle repealed", x.about(0, 5), 1 + 4);
        due.is("about(3, 5), itself repealed", x.about(3, 5), 8 + 16 + 32);
        due.is("about(2, 4), repealed ones too", x.about(2, 4), 8);
        x.repeal(4, true);
        due.is("about(1, 5)", x.about(1, 5), 2);
        due.is("about(3, 5)", x.about(3, 5), 8 + 16);
        x.repeal(3, false);
        x.except(1, 0);
        x.except(5, 0);
        due.is("about(0, 5), several ways on", x.about(0, 5), 1 + 2 + 4 + 8 + 16 + 64);
    }

    private static void holds() {
        due.promise(8);
        BallCourt x = new BallCourt();
        due.is("holds(0, 99)", x.holds(0, 99), BallCourt.UNKNOWN);
        x.line(5, 2, 1);
        for (int kind = 0; kind < 16; kind++) {
            due.is("holds(0, " + kind + ")", x.holds(0, kind), (kind & 7) == 5 ? 1 : 0);
        }
        for (int kind : new int[] {16, -1, LEAST, GREATEST}) {
            due.is("holds(0, " + kind + ")", x.holds(0, kind), BallCourt.OUTSIDE);
            due.is("holds(1, " + kind + ")", x.holds(1, kind), BallCourt.UNKNOWN);
        }
        x.repeal(0, true);
        due.is("holds(0, 5), repealed", x.holds(0, 5), 0);
        due.is("holds(-1, 5)", x.holds(-1, 5), BallCourt.UNKNOWN);
    }

    private static void holdsThroughChains() {
        due.promise(8);
        BallCourt x = new BallCourt();
        x.line(0, 0, 1);
        x.line(1, 0, 2);
        x.line(2, 0, 3);
        x.line(4, 0, 4);
        x.except(1, 0);
        x.except(2, 1);
        x.except(3, 2);
        // For the kinds 0 to 7: which of the four lines hold, as bits.
        int[] due0to7 = {1, 2, 5, 5, 9, 10, 9, 10};
        for (int kind = 0; kind < 8; kind++) {
            for (int line = 0; line < 4; line++) {
                due.is("holds(" + line + ", " + kind + ")", x.holds(line, kind), due0to7[kind] >> line & 1);
            }
            due.is("law(" + kind + ", 0)", x.law(kind, 0), (due0to7[kind] & 1) != 0 ? 0 : BallCourt.NONE);
        }
        x.repeal(2, true);
        due.is("holds(1, 3), its exception repealed", x.holds(1, 3), 1);
        due.is("holds(0, 3)", x.holds(0, 3), 0);
    }

    private static void law() {
        due.promise(9);
        BallCourt x = new BallCourt();
        x.line(1, 0, 4);
        x.line(0, 0, 0);
        x.line(0, 0, 3);
        for (int kind = 0; kind < 16; kind++) {
            due.is("law(" + kind + ", 0)", x.law(kind, 0), (kind & 1) != 0 ? 0 : 1);
            due.is("law(" + kind + ", 1)", x.law(kind, 1), (kind & 1) != 0 ? 4 : 0);
        }
        int[][] bad = {{16, 0}, {-1, 0}, {0, 2}, {0, -1}, {LEAST, 0}, {GREATEST, 1}, {0, LEAST}, {0, GREATEST}};
        for (int[] b : bad) {
            due.is("law(" + b[0] + ", " + b[1] + ")", x.law(b[0], b[1]), BallCourt.OUTSIDE);
        }
        x.repeal(1, true);
        due.is("law(2, 0)", x.law(2, 0), 2);
        due.is("law(2, 1)", x.law(2, 1), 3);
        x.repeal(2, true);
        due.is("law(2, 0), not covered", x.law(2, 0), BallCourt.NONE);
        due.is("law(2, 1), not covered", x.law(2, 1), 0);
        x.facts(7);
        x.line(64, 0, 2);
        due.is("law(127, 1)", x.law(127, 1), 2);
        due.is("law(63, 0)", x.law(63, 0), BallCourt.NONE);
        due.is("law(128, 1)", x.law(128, 1), BallCourt.OUTSIDE);
    }

    private static void open() {
        due.promise(10);
        BallCourt x = new BallCourt();
        x.facts(3);
        due.is("open(7)", x.open(7), 7);
        due.is("open(8)", x.open(8), BallCourt.NONE);
        x.line(1, 0, 0);
        int[] even = {0, 2, 4, 6};
        due.is("open(-1)", x.open(-1), 4);
        for (int i = 0; i < 4; i++) {
            due.is("open(" + i + ")", x.open(i), even[i]);
        }
        for (int i : new int[] {4, GREATEST, -2, LEAST}) {
            due.is("open(" + i + ")", x.open(i), BallCourt.NONE);
        }
        x.barred(1, 2, true);
        due.is("open(-1), one barred", x.open(-1), 3);
        due.is("open(2)", x.open(2), 4);
        due.is("open(3)", x.open(3), BallCourt.NONE);
        x.line(0, 0, 1);
        due.is("open(-1), all covered", x.open(-1), 0);
        due.is("open(0), all covered", x.open(0), BallCourt.NONE);
    }

    private static void idle() {
        due.promise(11);
        BallCourt x = new BallCourt();
        for (int line : new int[] {0, -1, 12, 32, LEAST, GREATEST}) {
            due.is("idle(" + line + ")", x.idle(line), BallCourt.UNKNOWN);
        }
        x.line(0, 0, 1);
        x.line(1, 0, 2);
        x.line(2, 0, 1);
        due.is("idle(0)", x.idle(0), 0);
        due.is("idle(1), never the first", x.idle(1), 1);
        due.is("idle(2)", x.idle(2), 1);
        x.repeal(0, true);
        due.is("idle(0), repealed", x.idle(0), 0);
        due.is("idle(1)", x.idle(1), 0);
        due.is("idle(3)", x.idle(3), BallCourt.UNKNOWN);
        due.is("law(1, 0), idle changes nothing", x.law(1, 0), 1);
        due.is("about(1, 3), idle changes nothing", x.about(1, 3), 0);
        x.facts(2);
        x.line(1, 0, 3);
        x.line(1, 0, 3);
        due.is("idle(0), the same ruling by the next line", x.idle(0), 1);
        x.line(2, 1, 0);
        due.is("idle(2), play on but covered", x.idle(2), 0);
        x.repeal(2, true);
        due.is("idle(2), repealed: would be covered", x.idle(2), 0);
        x.repeal(1, true);
        due.is("idle(1), repealed", x.idle(1), 1);
        due.is("idle(0)", x.idle(0), 0);
    }

    private static void idleOverKindsAlone() {
        due.promise(11);
        BallCourt x = new BallCourt();
        x.line(3, 0, 2);
        due.is("idle(0)", x.idle(0), 0);
        x.barred(0, 1, true);
        due.is("idle(0), for no kind", x.idle(0), 1);
        due.is("mend(0, 0)", x.mend(0, 0), 0);
        x.barred(0, 1, false);
        due.is("idle(0)", x.idle(0), 0);
    }

    private static void told() {
        due.promise(26);
        BallCourt x = new BallCourt();
        x.facts(5);
        x.barred(0, 4, true);
        x.line(2, 0, 1);
        x.line(4, 0, 1);
        x.except(1, 0);
        x.goal(20);
        for (int m = 0; m < 3; m++) {
            x.moment();
        }
        for (int fact = 0; fact < 5; fact++) {
            x.tell(1, 2, fact, 0);
        }
        x.make(1);
        int[] now = {5, 24, 2, 3, 1, 20, 6};
        for (int what = 0; what < now.length; what++) {
            due.is("told(" + what + ")", x.told(what), now[what]);
        }
        x.repeal(1, true);
        due.is("told(6), mended", x.told(6), 12);
        due.is("told(2), repealed ones too", x.told(2), 2);
        for (int what : new int[] {-1, 7, LEAST, GREATEST}) {
            due.is("told(" + what + ")", x.told(what), BallCourt.OUTSIDE);
        }
    }
}
