import java.util.List;

/**
 * "Calls that are refused answer, the first of these that fits: UNKNOWN, OUTSIDE, STATE, FULL, NO. They change
 * nothing." Each refusal that a promise tells of, with every number that is too small, too great, or comes round.
 */
public final class RefusedTest {
    private static final Due due = new Due("RefusedTest");
    private static final int UNKNOWN = BallCourt.UNKNOWN, OUTSIDE = BallCourt.OUTSIDE, STATE = BallCourt.STATE,
        FULL = BallCourt.FULL, NO = BallCourt.NO;
    // What the court of Courts.some() has, as the last number of each.
    private static final int FACT = 2, LINE = 3, MOMENT = 4, CASE = 2;
    private static final List<Integer> SOME = Courts.seen(Courts.some()), ALL = Courts.seen(Courts.full());

    /** A call of the face. */
    private interface Call {
        int on(BallCourt x);
    }

    public static void main(String[] args) {
        whatIsThere();
        facts();
        barred();
        line();
        lineFull();
        exceptUnknown();
        exceptNo();
        repeal();
        about();
        holds();
        law();
        open();
        idle();
        momentFull();
        tell();
        known();
        proof();
        ofMomentsAlone();
        rule();
        makeUnknown();
        makeState();
        makeFull();
        ofCase();
        mend();
        goal();
        score();
        appeal();
        told();
        onNothing();
        due.end();
    }

    private static void whatIsThere() {
        due.promise(26);
        int[] some = {FACT + 1, 6, LINE + 1, MOMENT + 1, CASE + 1, 7}, all = {1, 2, 12, 30, 12, 20};
        for (int what = 0; what < 6; what++) {
            due.is("told(" + what + "), some of all", Courts.some().told(what), some[what]);
            due.is("told(" + what + "), all full", Courts.full().told(what), all[what]);
        }
    }

    /** The call is refused so on a court with some of all, and it changes nothing. */
    private static void refused(int answer, String call, Call made) {
        BallCourt x = Courts.some();
        due.is(call, made.on(x), answer);
        due.isTrue(call + " changes nothing", Courts.seen(x).equals(SOME));
    }

    /** The call is refused so on a court that is full, and it changes nothing. */
    private static void refusedWhereFull(int answer, String call, Call made) {
        BallCourt x = Courts.full();
        due.is(call + ", all full", made.on(x), answer);
        due.isTrue(call + " changes nothing, all full", Courts.seen(x).equals(ALL));
    }

    private static String told(String name, int... numbers) {
        StringBuilder text = new StringBuilder(name).append('(');
        for (int i = 0; i < numbers.length; i++) {
            text.append(i == 0 ? "" : ", ").append(numbers[i]);
        }
        return text.append(')').toString();
    }

    private static void facts() {
        due.sentence(2, "OUTSIDE");
        for (int n : Courts.off(1, 7)) {
            refused(OUTSIDE, told("facts", n), x -> x.facts(n));
        }
    }

    private static void barred() {
        due.sentence(3, "UNKNOWN: also they are one");
        for (boolean is : new boolean[] {true, false}) {
            for (int bad : Courts.off(0, FACT)) {
                refused(UNKNOWN, told("barred", bad, 1), x -> x.barred(bad, 1, is));
                refused(UNKNOWN, told("barred", 1, bad), x -> x.barred(1, bad, is));
                refused(UNKNOWN, told("barred", bad, bad), x -> x.barred(bad, bad, is));
            }
            for (int fact = 0; fact <= FACT; fact++) {
                int one = fact;
                refused(UNKNOWN, told("barred", one, one), x -> x.barred(one, one, is));
            }
        }
    }

    private static void line() {
        due.sentence(4, "OUTSIDE: also a FACT that must and must not be");
        for (int bad : Courts.off(0, 7)) {
            refused(OUTSIDE, told("line", bad, 0, 0), x -> x.line(bad, 0, 0));
            refused(OUTSIDE, told("line", 0, bad, 0), x -> x.line(0, bad, 0));
        }
        for (int bad : Courts.off(0, 4)) {
            refused(OUTSIDE, told("line", 1, 2, bad), x -> x.line(1, 2, bad));
        }
        for (int must = 0; must < 8; must++) {
            for (int mustNot = 0; mustNot < 8; mustNot++) {
                int a = must, b = mustNot;
                if ((a & b) != 0) {
                    refused(OUTSIDE, told("line", a, b, 0), x -> x.line(a, b, 0));
                } else {
                    due.is(told("line", a, b, 0), Courts.some().line(a, b, 0), LINE + 1);
                }
            }
        }
    }

    private static void lineFull() {
        due.sentence(4, "FULL");
        refusedWhereFull(FULL, "line(0, 0, 0)", x -> x.line(0, 0, 0));
        refusedWhereFull(FULL, "line(1, 0, 4)", x -> x.line(1, 0, 4));
        refusedWhereFull(OUTSIDE, "line(1, 1, 0)", x -> x.line(1, 1, 0));
        refusedWhereFull(OUTSIDE, "line(2, 0, 0)", x -> x.line(2, 0, 0));
        refusedWhereFull(OUTSIDE, "line(0, -1, 0)", x -> x.line(0, -1, 0));
        refusedWhereFull(OUTSIDE, "line(0, 0, 5)", x -> x.line(0, 0, 5));
        refusedWhereFull(OUTSIDE, "line(0, 0, -1)", x -> x.line(0, 0, -1));
    }

    private static void exceptUnknown() {
        due.sentence(5, "UNKNOWN");
        for (int bad : Courts.off(0, LINE)) {
            refused(UNKNOWN, told("except", bad, 0), x -> x.except(bad, 0));
            refused(UNKNOWN, told("except", LINE, bad), x -> x.except(LINE, bad));
            refused(UNKNOWN, told("except", bad, bad), x -> x.except(bad, bad));
        }
    }

    private static void exceptNo() {
        due.sentence(5, "NO: j is not greater than i, or it does already");
        for (int line = 0; line <= LINE; line++) {
            for (int lesser = 0; lesser <= line; lesser++) {
                int i = line, j = lesser;
                refused(NO, told("except", j, i), x -> x.except(j, i));
            }
        }
        refused(NO, "except(2, 0), it does already", x -> x.except(2, 0));
        refused(NO, "except(2, 1), it does already", x -> x.except(2, 1));
        refusedWhereFull(NO, "except(11, 2), it does already", x -> x.except(11, 2));
        refusedWhereFull(UNKNOWN, "except(12, 11)", x -> x.except(12, 11));
        refusedWhereFull(NO, "except(11, 11)", x -> x.except(11, 11));
    }

    private static void repeal() {
        due.sentence(6, "UNKNOWN");
        for (int bad : Courts.off(0, LINE)) {
            refused(UNKNOWN, told("repeal", bad), x -> x.repeal(bad, true));
            refused(UNKNOWN, told("repeal", bad), x -> x.repeal(bad, false));
        }
        refusedWhereFull(UNKNOWN, "repeal(12, true)", x -> x.repeal(12, true));
    }

    private static void about() {
        due.sentence(7, "UNKNOWN; OUTSIDE");
        for (int bad : Courts.off(0, LINE)) {
            refused(UNKNOWN, told("about", bad, 0), x -> x.about(bad, 0));
            refused(UNKNOWN, told("about", bad, 6), x -> x.about(bad, 6));
        }
        for (int bad : Courts.off(0, 5)) {
            refused(OUTSIDE, told("about", LINE, bad), x -> x.about(LINE, bad));
        }
    }

    private static void holds() {
        due.sentence(8, "UNKNOWN; OUTSIDE: also a KIND that is none");
        for (int bad : Courts.off(0, LINE)) {
            refused(UNKNOWN, told("holds", bad, 0), x -> x.holds(bad, 0));
            refused(UNKNOWN, told("holds", bad, 6), x -> x.holds(bad, 6));
            refused(UNKNOWN, told("holds", bad, 8), x -> x.holds(bad, 8));
        }
        for (int bad : Courts.off(0, 7)) {
            refused(OUTSIDE, told("holds", 0, bad), x -> x.holds(0, bad));
        }
        refused(OUTSIDE, "holds(0, 6), barred", x -> x.holds(0, 6));
        refused(OUTSIDE, "holds(3, 7), barred, of a repealed line", x -> x.holds(3, 7));
    }

    private static void law() {
        due.sentence(9, "OUTSIDE");
        for (int bad : Courts.off(0, 7)) {
            refused(OUTSIDE, told("law", bad, 0), x -> x.law(bad, 0));
            refused(OUTSIDE, told("law", bad, 1), x -> x.law(bad, 1));
        }
        for (int bad : Courts.off(0, 1)) {
            refused(OUTSIDE, told("law", 0, bad), x -> x.law(0, bad));
        }
        for (int what = 0; what < 2; what++) {
            int one = what;
            refused(OUTSIDE, told("law", 6, one) + ", barred", x -> x.law(6, one));
            refused(OUTSIDE, told("law", 7, one) + ", barred", x -> x.law(7, one));
        }
    }

    private static void open() {
        due.sentence(10, "NONE (i below -1, too)");
        int open = Courts.some().open(-1);
        for (int i : Courts.off(-1, open - 1)) {
            refused(BallCourt.NONE, told("open", i), x -> x.open(i));
        }
        refusedWhereFull(BallCourt.NONE, "open(0), all covered", x -> x.open(0));
    }

    private static void idle() {
        due.sentence(11, "UNKNOWN");
        for (int bad : Courts.off(0, LINE)) {
            refused(UNKNOWN, told("idle", bad), x -> x.idle(bad));
        }
        refusedWhereFull(UNKNOWN, "idle(12)", x -> x.idle(12));
    }

    private static void momentFull() {
        due.sentence(12, "FULL");
        refusedWhereFull(FULL, "moment()", x -> x.moment());
        refusedWhereFull(FULL, "moment(), tried twice", x -> Math.max(x.moment(), x.moment()));
    }

    private static void tell() {
        due.sentence(13, "UNKNOWN; OUTSIDE");
        for (int bad : Courts.off(0, MOMENT)) {
            refused(UNKNOWN, told("tell", bad, 0, 0, 1), x -> x.tell(bad, 0, 0, 1));
            refused(UNKNOWN, told("tell", bad, 3, 0, 3), x -> x.tell(bad, 3, 0, 3));
        }
        for (int bad : Courts.off(0, FACT)) {
            refused(UNKNOWN, told("tell", 4, 0, bad, 1), x -> x.tell(4, 0, bad, 1));
            refused(UNKNOWN, told("tell", 4, -1, bad, 1), x -> x.tell(4, -1, bad, 1));
            refused(UNKNOWN, told("tell", 4, 0, bad, -1), x -> x.tell(4, 0, bad, -1));
        }
        for (int bad : Courts.off(0, 2)) {
            refused(OUTSIDE, told("tell", 4, bad, 0, 1), x -> x.tell(4, bad, 0, 1));
            refused(OUTSIDE, told("tell", 0, bad, 0, 2), x -> x.tell(0, bad, 0, 2));
            refused(OUTSIDE, told("tell", 0, 0, 0, bad), x -> x.tell(0, 0, 0, bad));
            refused(OUTSIDE, told("tell", 4, 2, 2, bad), x -> x.tell(4, 2, 2, bad));
        }
    }

    private static void known() {
        due.sentence(14, "UNKNOWN; OUTSIDE");
        for (int bad : Courts.off(0, MOMENT)) {
            refused(UNKNOWN, told("known", bad, 0), x -> x.known(bad, 0));
            refused(UNKNOWN, told("known", bad, 4), x -> x.known(bad, 4));
        }
        for (int bad : Courts.off(0, 3)) {
            refused(OUTSIDE, told("known", MOMENT, bad), x -> x.known(MOMENT, bad));
        }
    }

    private static void proof() {
        due.sentence(15, "UNKNOWN; OUTSIDE");
        for (int bad : Courts.off(0, MOMENT)) {
            refused(UNKNOWN, told("proof", bad, 0), x -> x.proof(bad, 0));
            refused(UNKNOWN, told("proof", bad, 5), x -> x.proof(bad, 5));
        }
        for (int bad : Courts.off(0, 4)) {
            refused(OUTSIDE, told("proof", 0, bad), x -> x.proof(0, bad));
            refused(OUTSIDE, told("proof", 1, bad) + ", may be nothing", x -> x.proof(1, bad));
        }
    }

    private static void ofMomentsAlone() {
        for (int bad : Courts.off(0, MOMENT)) {
            due.sentence(16, "UNKNOWN");
            refused(UNKNOWN, told("binds", bad), x -> x.binds(bad));
            due.sentence(17, "UNKNOWN");
            refused(UNKNOWN, told("verdict", bad), x -> x.verdict(bad));
        }
        due.sentence(16, "UNKNOWN");
        refusedWhereFull(UNKNOWN, "binds(30)", x -> x.binds(30));
        due.sentence(17, "UNKNOWN");
        refusedWhereFull(UNKNOWN, "verdict(30)", x -> x.verdict(30));
    }

    private static void rule() {
        due.sentence(18, "UNKNOWN; OUTSIDE");
        for (int bad : Courts.off(0, MOMENT)) {
            refused(UNKNOWN, told("rule", bad, 0), x -> x.rule(bad, 0));
            refused(UNKNOWN, told("rule", bad, -1), x -> x.rule(bad, -1));
            refused(UNKNOWN, told("rule", bad, 5), x -> x.rule(bad, 5));
        }
        for (int bad : Courts.off(-1, 4)) {
            refused(OUTSIDE, told("rule", 0, bad), x -> x.rule(0, bad));
            refused(OUTSIDE, told("rule", 3, bad), x -> x.rule(3, bad));
        }
    }

    private static void makeUnknown() {
        due.sentence(19, "UNKNOWN");
        for (int bad : Courts.off(0, MOMENT)) {
            refused(UNKNOWN, told("make", bad), x -> x.make(bad));
        }
        refusedWhereFull(UNKNOWN, "make(30)", x -> x.make(30));
        refusedWhereFull(UNKNOWN, "make(-1)", x -> x.make(-1));
    }

    private static void makeState() {
        due.sentence(19, "STATE: some are in DOUBT, or it MAY-BE nothing");
        refused(STATE, "make(3), one told both ways", x -> x.make(3));
        refused(STATE, "make(4), nothing told", x -> x.make(4));
        refused(STATE, "make(1), may be nothing", x -> x.make(1));
        refusedWhereFull(STATE, "make(1), nothing told", x -> x.make(1));
        BallCourt x = Courts.some();
        x.tell(4, 0, 0, 0);
        x.tell(4, 1, 1, 0);
        due.is("make(4), all told but one", x.make(4), STATE);
        x.rule(4, 2);
        due.is("make(4), all told but one, an umpire ruled", x.make(4), STATE);
        x.tell(4, 2, 2, 0);
        due.is("make(4), all told", x.make(4), CASE + 1);
        x.tell(4, 0, 2, 1);
        due.is("make(4), one told both ways", x.make(4), STATE);
    }

    private static void makeFull() {
        due.sentence(19, "FULL");
        refusedWhereFull(FULL, "make(0)", x -> x.make(0));
        refusedWhereFull(FULL, "make(29)", x -> x.make(29));
    }

    private static void ofCase() {
        due.sentence(20, "UNKNOWN; OUTSIDE");
        for (int bad : Courts.off(0, CASE)) {
            refused(UNKNOWN, told("ofCase", bad, 0), x -> x.ofCase(bad, 0));
            refused(UNKNOWN, told("ofCase", bad, 3), x -> x.ofCase(bad, 3));
            refused(OUTSIDE, told("ofCase", CASE, bad), x -> x.ofCase(CASE, bad));
        }
        refusedWhereFull(UNKNOWN, "ofCase(12, 0)", x -> x.ofCase(12, 0));
    }

    private static void mend() {
        due.sentence(22, "UNKNOWN; OUTSIDE");
        for (int bad : Courts.off(0, LINE)) {
            refused(UNKNOWN, told("mend", bad, 0), x -> x.mend(bad, 0));
            refused(UNKNOWN, told("mend", bad, 3), x -> x.mend(bad, 3));
        }
        for (int bad : Courts.off(0, 2)) {
            refused(OUTSIDE, told("mend", LINE, bad), x -> x.mend(LINE, bad));
        }
        refusedWhereFull(UNKNOWN, "mend(12, 0)", x -> x.mend(12, 0));
    }

    private static void goal() {
        due.sentence(23, "OUTSIDE");
        for (int bad : Courts.off(1, 20)) {
            refused(OUTSIDE, told("goal", bad), x -> x.goal(bad));
        }
    }

    private static void score() {
        due.sentence(24, "OUTSIDE");
        for (int bad : Courts.off(0, MOMENT + 1)) {
            refused(OUTSIDE, told("score", bad, 0), x -> x.score(bad, 0));
        }
        for (int bad : Courts.off(0, 3)) {
            refused(OUTSIDE, told("score", 0, bad), x -> x.score(0, bad));
            refused(OUTSIDE, told("score", MOMENT + 1, bad), x -> x.score(MOMENT + 1, bad));
        }
        refusedWhereFull(OUTSIDE, "score(31, 0)", x -> x.score(31, 0));
    }

    private static void appeal() {
        due.sentence(25, "UNKNOWN; OUTSIDE");
        for (int bad : Courts.off(0, MOMENT)) {
            refused(UNKNOWN, told("appeal", bad, 0), x -> x.appeal(bad, 0));
            refused(UNKNOWN, told("appeal", bad, 5), x -> x.appeal(bad, 5));
        }
        for (int bad : Courts.off(0, 4)) {
            refused(OUTSIDE, told("appeal", MOMENT, bad), x -> x.appeal(MOMENT, bad));
        }
        refusedWhereFull(UNKNOWN, "appeal(30, 0)", x -> x.appeal(30, 0));
    }

    private static void told() {
        due.sentence(26, "OUTSIDE");
        for (int bad : Courts.off(0, 6)) {
            refused(OUTSIDE, told("told", bad), x -> x.told(bad));
        }
    }

    /** A new object has no line, moment or case, not even one that bears the number 0. */
    private static void onNothing() {
        due.sentence(1, "no LINES, MOMENTS, CASES");
        Call[] unknown = {x -> x.except(0, 0), x -> x.except(1, 0), x -> x.repeal(0, true), x -> x.about(0, 0),
            x -> x.holds(0, 0), x -> x.idle(0), x -> x.tell(0, 0, 0, 0), x -> x.known(0, 0), x -> x.proof(0, 0),
            x -> x.binds(0), x -> x.verdict(0), x -> x.rule(0, 0), x -> x.make(0), x -> x.ofCase(0, 0),
            x -> x.mend(0, 0), x -> x.appeal(0, 0)};
        for (int i = 0; i < unknown.length; i++) {
            BallCourt x = new BallCourt();
            due.is("call " + i + " on a new object", unknown[i].on(x), UNKNOWN);
            due.isTrue("call " + i + " changes nothing", Courts.seen(x).equals(Courts.seen(new BallCourt())));
        }
        due.is("score(1, 0)", new BallCourt().score(1, 0), OUTSIDE);
    }
}
