/** Promises 12 to 22: the moments, their witnesses and verdicts, the cases, and what turns. */
public final class MomentTest {
    private static final Due due = new Due("MomentTest");
    private static final int LEAST = Integer.MIN_VALUE, GREATEST = Integer.MAX_VALUE;

    public static void main(String[] args) {
        moment();
        tell();
        tellRefused();
        known();
        knownWithBarredFacts();
        proof();
        binds();
        bindsAlsoWhereNothingMayBe();
        verdict();
        verdictsInTheirOrder();
        rule();
        make();
        makeRefused();
        ofCase();
        turned();
        mend();
        mendTurnsCasesOfBarredKinds();
        mendTurnsVerdicts();
        due.end();
    }

    private static void moment() {
        due.promise(12);
        BallCourt x = new BallCourt();
        for (int m = 0; m < 30; m++) {
            due.is("moment()", x.moment(), m);
        }
        due.is("moment(), a 31st", x.moment(), BallCourt.FULL);
        due.is("told(3)", x.told(3), 30);
        due.is("known(29, 2)", x.known(29, 2), 15);
        due.is("known(30, 2)", x.known(30, 2), BallCourt.UNKNOWN);
    }

    private static void tell() {
        due.promise(13);
        BallCourt x = new BallCourt();
        x.moment();
        x.moment();
        int before = 2;
        for (int v : new int[] {1, 1, 0, 0, 1, 2, 2, 0, 2}) {
            due.is("tell(1, 2, 3, " + v + ")", x.tell(1, 2, 3, v), before);
            before = v;
        }
        x.tell(1, 0, 1, 1);
        due.is("tell(1, 1, 1, 0), another witness", x.tell(1, 1, 1, 0), 2);
        due.is("tell(0, 0, 1, 0), another moment", x.tell(0, 0, 1, 0), 2);
        due.is("tell(1, 0, 2, 0), another fact", x.tell(1, 0, 2, 0), 2);
        due.is("tell(1, 0, 1, 2)", x.tell(1, 0, 1, 2), 1);
        due.is("tell(1, 1, 1, 2)", x.tell(1, 1, 1, 2), 0);
    }

    private static void tellRefused() {
        due.promise(13);
        BallCourt x = new BallCourt();
        due.is("tell(0, 0, 0, 1)", x.tell(0, 0, 0, 1), BallCourt.UNKNOWN);
        x.moment();
        int[][] unknown = {{1, 0, 0, 0}, {-1, 0, 0, 0}, {0, 0, 4, 0}, {0, 0, -1, 0}, {0, 3, 4, 0}, {0, 0, 4, 3},
            {1, 9, 0, 9}, {LEAST, 0, 0, 0}, {GREATEST, 0, 0, 0}, {0, 0, LEAST, 0}, {0, 0, GREATEST, 0}};
        for (int[] u : unknown) {
            due.is("tell of what is not there", x.tell(u[0], u[1], u[2], u[3]), BallCourt.UNKNOWN);
        }
        int[][] outside = {{0, 3, 0, 0}, {0, -1, 0, 0}, {0, 0, 0, 3}, {0, 0, 0, -1}, {0, LEAST, 0, 0},
            {0, GREATEST, 0, 0}, {0, 0, 0, LEAST}, {0, 0, 0, GREATEST}};
        for (int[] o : outside) {
            due.is("tell(0, " + o[1] + ", 0, " + o[3] + ")", x.tell(o[0], o[1], o[2], o[3]), BallCourt.OUTSIDE);
        }
        due.is("known(0, 2)", x.known(0, 2), 15);
    }

    private static void known() {
        due.promise(14);
        BallCourt x = new BallCourt();
        due.is("known(0, 9)", x.known(0, 9), BallCourt.UNKNOWN);
        x.moment();
        knows(x, 0, 0, 15, 16);
        x.tell(0, 0, 0, 1);
        x.tell(0, 1, 1, 0);
        knows(x, 1, 2, 12, 4);
        x.tell(0, 2, 0, 1);
        knows(x, 1, 2, 12, 4);
        x.tell(0, 1, 0, 0);
        knows(x, 0, 2, 13, 8);
        x.tell(0, 0, 0, 2);
        x.tell(0, 2, 0, 2);
        knows(x, 0, 3, 12, 4);
        x.tell(0, 2, 1, 1);
        knows(x, 0, 1, 14, 8);
        x.tell(0, 0, 2, 1);
        x.tell(0, 2, 3, 0);
        knows(x, 4, 9, 2, 2);
        x.tell(0, 1, 1, 2);
        knows(x, 6, 9, 0, 1);
        for (int what : new int[] {-1, 4, LEAST, GREATEST}) {
            due.is("known(0, " + what + ")", x.known(0, what), BallCourt.OUTSIDE);
        }
        for (int m : new int[] {-1, 1, 30, LEAST, GREATEST}) {
            due.is("known(" + m + ", 0)", x.known(m, 0), BallCourt.UNKNOWN);
        }
    }

    private static void knows(BallCourt x, int so, int notSo, int doubt, int mayBe) {
        due.is("known(0, 0)", x.known(0, 0), so);
        due.is("known(0, 1)", x.known(0, 1), notSo);
        due.is("known(0, 2)", x.known(0, 2), doubt);
        due.is("known(0, 3)", x.known(0, 3), mayBe);
    }

    private static void knownWithBarredFacts() {
        due.promise(14);
        BallCourt x = new BallCourt();
        x.barred(0, 1, true);
        x.moment();
        knows(x, 0, 0, 15, 12);
        x.tell(0, 0, 0, 1);
        knows(x, 1, 0, 14, 4);
        x.tell(0, 1, 1, 1);
        knows(x, 3, 0, 12, 0);
        x.barred(0, 1, false);
        knows(x, 3, 0, 12, 4);
    }

    private static void proof() {
        due.promise(15);
        BallCourt x = new BallCourt();
        due.is("proof(0, 9)", x.proof(0, 9), BallCourt.UNKNOWN);
        x.moment();
        due.is("proof(0, 0), no lines", x.proof(0, 0), 2);
        due.is("proof(0, 1), no lines", x.proof(0, 1), 0);
        x.line(1, 0, 3);
        proves(x, new int[] {1, 0, 0, 1, 0});
        x.line(0, 1, 4);
        proves(x, new int[] {0, 0, 0, 1, 1});
        x.tell(0, 1, 0, 0);
        proves(x, new int[] {0, 0, 0, 0, 2});
        x.rule(0, 2);
        proves(x, new int[] {0, 0, 0, 0, 2});
        x.tell(0, 1, 0, 1);
        proves(x, new int[] {0, 0, 0, 2, 0});
        x.tell(0, 1, 1, 1);
        x.barred(0, 1, true);
        proves(x, new int[] {0, 0, 0, 0, 0});
        x.facts(2);
        x.moment();
        x.tell(0, 0, 0, 1);
        x.tell(0, 0, 1, 1);
        x.barred(0, 1, true);
        due.is("proof(0, 0), nothing may be", x.proof(0, 0), 0);
        for (int ruling : new int[] {-1, 5, LEAST, GREATEST}) {
            due.is("proof(0, " + ruling + ")", x.proof(0, ruling), BallCourt.OUTSIDE);
        }
        for (int m : new int[] {-1, 1, LEAST, GREATEST}) {
            due.is("proof(" + m + ", 0)", x.proof(m, 0), BallCourt.UNKNOWN);
        }
        x.facts(7);
        x.line(127, 0, 4);
        x.moment();
        due.is("proof(0, 4), one of 128", x.proof(0, 4), 1);
        due.is("proof(0, 0), all others", x.proof(0, 0), 1);
        due.is("verdict(0), not all", x.verdict(0), 0);
    }

    private static void proves(BallCourt x, int[] want) {
        for (int ruling = 0; ruling < 5; ruling++) {
            due.is("proof(0, " + ruling + ")", x.proof(0, ruling), want[ruling]);
        }
    }

    private static void binds() {
        due.promise(16);
        BallCourt x = new BallCourt();
        due.is("binds(0)", x.binds(0), BallCourt.UNKNOWN);
        x.line(1, 2, 1);
        x.line(2, 0, 2);
        x.line(0, 4, 3);
        Courts.momentOf(x, 1);
        Courts.momentOf(x, 2);
        Courts.momentOf(x, 4);
        due.is("binds(0), no cases", x.binds(0), BallCourt.NONE);
        due.is("make(1)", x.make(1), 0);
        due.is("make(0)", x.make(0), 1);
        due.is("make(2), not covered", x.make(2), 2);
        due.is("binds(0)", x.binds(0), 1);
        due.is("binds(1)", x.binds(1), 0);
        due.is("binds(2)", x.binds(2), 2);
        int m = x.moment();
        due.is("binds, nothing known", x.binds(m), BallCourt.NONE);
        x.tell(m, 0, 0, 1);
        due.is("binds, one of two known", x.binds(m), BallCourt.NONE);
        x.tell(m, 0, 1, 1);
        due.is("binds, by case 0", x.binds(m), 0);
        x.tell(m, 0, 1, 0);
        due.is("binds, by case 1", x.binds(m), 1);
        x.tell(m, 1, 1, 1);
        due.is("binds, the fact in doubt", x.binds(m), BallCourt.NONE);
        x.tell(m, 0, 1, 2);
        x.tell(m, 0, 0, 2);
        due.is("binds, by case 0 of one fact", x.binds(m), 0);
        x.rule(m, 4);
        due.is("binds, also under an umpire", x.binds(m), 0);
        for (int bad : new int[] {-1, 4, 30, LEAST, GREATEST}) {
            due.is("binds(" + bad + ")", x.binds(bad), BallCourt.UNKNOWN);
        }
        bindsAll();
    }

    private static void bindsAll() {
        BallCourt x = new BallCourt();
        x.line(0, 0, 2);
        Courts.momentOf(x, 9);
        due.is("make(0), a case that names nothing", x.make(0), 0);
        due.is("ofCase(0, 2)", x.ofCase(0, 2), 0);
        x.moment();
        due.is("binds(1), nothing known, nothing named", x.binds(1), 0);
        x.facts(2);
        Courts.momentOf(x, 3);
        Courts.momentOf(x, 3);
        x.make(0);
        x.rule(1, 4);
        x.make(1);
        due.is("binds(1), the first of two", x.binds(1), 0);
    }

    private static void bindsAlsoWhereNothingMayBe() {
        due.promise(16);
        BallCourt x = new BallCourt();
        x.line(1, 0, 2);
        Courts.momentOf(x, 3);
        x.make(0);
        x.barred(0, 1, true);
        due.is("known(0, 3)", x.known(0, 3), 0);
        due.is("binds(0)", x.binds(0), 0);
        due.is("verdict(0)", x.verdict(0), 0);
    }

    private static void verdict() {
        due.promise(17);
        BallCourt x = new BallCourt();
        due.is("verdict(0)", x.verdict(0), BallCourt.UNKNOWN);
        x.moment();
        due.is("verdict(0), no lines", x.verdict(0), 0);
        x.line(1, 0, 3);
        due.is("verdict(0), some a fault", x.verdict(0), 0);
        x.tell(0, 0, 0, 1);
        due.is("verdict(0), all a fault", x.verdict(0), 3);
        x.line(2, 0, 1);
        due.is("verdict(0), still all", x.verdict(0), 3);
        x.tell(0, 0, 0, 0);
        due.is("verdict(0), hoop or play on", x.verdict(0), 0);
        x.tell(0, 1, 1, 1);
        due.is("verdict(0), all a hoop", x.verdict(0), 1);
        x.tell(0, 2, 1, 0);
        due.is("verdict(0), in doubt again", x.verdict(0), 0);
        x.line(0, 0, 1);
        due.is("verdict(0), the same by two lines", x.verdict(0), 1);
        x.facts(1);
        x.line(1, 0, 2);
        x.moment();
        due.is("verdict(0), kind 0 play on", x.verdict(0), 0);
        x.line(0, 0, 2);
        due.is("verdict(0), kind 0 too", x.verdict(0), 2);
        x.repeal(0, true);
        x.repeal(1, true);
        x.line(0, 1, 2);
        due.is("verdict(0), kind 1 play on", x.verdict(0), 0);
        for (int m : new int[] {-1, 1, 30, LEAST, GREATEST}) {
            due.is("verdict(" + m + ")", x.verdict(m), BallCourt.UNKNOWN);
        }
    }

    /** An umpire ahead of nothing that may be, that ahead of a case, and a case ahead of the law. */
    private static void verdictsInTheirOrder() {
        due.promise(17);
        BallCourt x = new BallCourt();
        x.line(1, 0, 1);
        Courts.momentOf(x, 3);
        x.rule(0, 2);
        due.is("make(0), as the umpire ruled", x.make(0), 0);
        x.rule(0, 4);
        due.is("make(0), a second case of the kind", x.make(0), 1);
        x.rule(0, -1);
        due.is("verdict(0), by the first case", x.verdict(0), 2);
        due.is("proof(0, 1), but the law's", x.proof(0, 1), 2);
        x.moment();
        x.tell(1, 0, 0, 1);
        due.is("verdict(1), bound by what the law names", x.verdict(1), 2);
        x.barred(0, 1, true);
        due.is("verdict(0), nothing may be", x.verdict(0), 0);
        due.is("verdict(1), something may be", x.verdict(1), 2);
        x.rule(0, 3);
        due.is("verdict(0), an umpire where nothing may be", x.verdict(0), 3);
        x.rule(1, 0);
        due.is("verdict(1), an umpire ahead of a case", x.verdict(1), 0);
    }

    private static void rule() {
        due.promise(18);
        BallCourt x = new BallCourt();
        due.is("rule(0, 9)", x.rule(0, 9), BallCourt.UNKNOWN);
        x.line(0, 0, 3);
        x.moment();
        x.moment();
        int before = 3;
        for (int ruling : new int[] {0, 1, 2, 3, 4}) {
            due.is("rule(0, " + ruling + ")", x.rule(0, ruling), before);
            due.is("verdict(0)", x.verdict(0), ruling);
            before = ruling;
        }
        for (int ruling : new int[] {-2, 5, LEAST, GREATEST}) {
            due.is("rule(0, " + ruling + ")", x.rule(0, ruling), BallCourt.OUTSIDE);
            due.is("verdict(0)", x.verdict(0), 4);
        }
        due.is("verdict(1), another moment", x.verdict(1), 3);
        due.is("rule(0, -1)", x.rule(0, -1), 4);
        due.is("rule(0, -1), no umpire", x.rule(0, -1), 3);
        due.is("verdict(0)", x.verdict(0), 3);
        for (int m : new int[] {-1, 2, 30, LEAST, GREATEST}) {
            due.is("rule(" + m + ", 0)", x.rule(m, 0), BallCourt.UNKNOWN);
        }
    }

    private static void make() {
        due.promise(19);
        BallCourt x = new BallCourt();
        x.line(1, 2, 2);
        x.line(4, 0, 3);
        x.except(1, 0);
        Courts.momentOf(x, 1);
        Courts.momentOf(x, 5);
        due.is("make(0)", x.make(0), 0);
        isCase(x, 0, 1, 2, 7);
        due.is("make(1), not covered", x.make(1), 1);
        isCase(x, 1, 5, 0, 15);
        x.repeal(1, true);
        isCase(x, 0, 1, 2, 7);
        due.is("make(0), bound by its own case", x.make(0), 2);
        isCase(x, 2, 1, 2, 3);
        x.rule(1, 4);
        due.is("make(1), as an umpire ruled", x.make(1), 3);
        isCase(x, 3, 5, 4, 3);
        x.rule(1, -1);
        due.is("make(1), bound by case 1", x.make(1), 4);
        isCase(x, 4, 5, 0, 3);
        x.tell(0, 0, 0, 0);
        isCase(x, 0, 1, 2, 7);
    }

    private static void isCase(BallCourt x, int k, int kind, int ruling, int names) {
        due.is("ofCase(" + k + ", 0)", x.ofCase(k, 0), kind);
        due.is("ofCase(" + k + ", 1)", x.ofCase(k, 1), ruling);
        due.is("ofCase(" + k + ", 2)", x.ofCase(k, 2), names);
    }

    private static void makeRefused() {
        due.promise(19);
        BallCourt x = new BallCourt();
        for (int m : new int[] {0, -1, 30, LEAST, GREATEST}) {
            due.is("make(" + m + ")", x.make(m), BallCourt.UNKNOWN);
        }
        x.moment();
        due.is("make(0), all in doubt", x.make(0), BallCourt.STATE);
        Courts.momentOf(x, 6);
        x.tell(1, 1, 2, 0);
        due.is("make(1), one in doubt", x.make(1), BallCourt.STATE);
        x.tell(1, 1, 2, 1);
        due.is("make(1), two of one mind", x.make(1), 0);
        x.barred(1, 2, true);
        due.is("make(1), may be nothing", x.make(1), BallCourt.STATE);
        x.rule(1, 2);
        due.is("make(1), may be nothing, an umpire ruled", x.make(1), BallCourt.STATE);
        x.barred(1, 2, false);
        due.is("told(4)", x.told(4), 1);
        for (int k = 1; k < 12; k++) {
            due.is("make(1)", x.make(1), k);
        }
        due.is("make(1), a 13th", x.make(1), BallCourt.FULL);
        due.is("make(0), in doubt, a 13th", x.make(0), BallCourt.STATE);
        due.is("make(2), a 13th", x.make(2), BallCourt.UNKNOWN);
        due.is("told(4)", x.told(4), 12);
    }

    private static void ofCase() {
        due.promise(20);
        BallCourt x = new BallCourt();
        due.is("ofCase(0, 9)", x.ofCase(0, 9), BallCourt.UNKNOWN);
        x.facts(7);
        x.line(64, 1, 4);
        Courts.momentOf(x, 66);
        x.make(0);
        isCase(x, 0, 66, 4, 65);
        for (int what : new int[] {-1, 3, LEAST, GREATEST}) {
            due.is("ofCase(0, " + what + ")", x.ofCase(0, what), BallCourt.OUTSIDE);
        }
        for (int k : new int[] {-1, 1, 12, LEAST, GREATEST}) {
            due.is("ofCase(" + k + ", 0)", x.ofCase(k, 0), BallCourt.UNKNOWN);
        }
        x.barred(1, 6, true);
        isCase(x, 0, 66, 4, 65);
    }

    private static void turned() {
        due.promise(21);
        BallCourt x = new BallCourt();
        x.line(1, 0, 1);
        x.line(2, 0, 2);
        Courts.momentOf(x, 1);
        Courts.momentOf(x, 3);
        Courts.momentOf(x, 2);
        Courts.momentOf(x, 4);
        for (int m = 0; m < 4; m++) {
            due.is("make(" + m + ")", x.make(m), m);
        }
        due.is("turned()", x.turned(), 0);
        x.repeal(0, true);
        due.is("turned(), line 0 repealed", x.turned(), 3);
        x.barred(0, 1, true);
        due.is("turned(), a kind barred", x.turned(), 3);
        x.repeal(0, false);
        due.is("turned(), line 0 back", x.turned(), 0);
        x.line(4, 0, 0);
        due.is("turned(), now covered but play on", x.turned(), 0);
        x.rule(3, 4);
        due.is("make(3), as an umpire ruled", x.make(3), 4);
        due.is("turned(), against the law as it is made", x.turned(), 16);
        for (int k = 5; k < 12; k++) {
            x.make(3);
        }
        due.is("turned(), of twelve", x.turned(), 0xff0);
        x.repeal(2, true);
        x.line(4, 0, 3);
        due.is("turned(), of twelve", x.turned(), 0xff8);
        x.facts(3);
        due.is("turned(), no cases", x.turned(), 0);
        x.line(0, 0, 4);
        due.is("turned(), no cases", x.turned(), 0);
    }

    private static void mend() {
        due.promise(22);
        BallCourt x = new BallCourt();
        for (int line : new int[] {0, -1, 12, 32, LEAST, GREATEST}) {
            due.is("mend(" + line + ", 9)", x.mend(line, 9), BallCourt.UNKNOWN);
        }
        x.line(1, 0, 1);
        x.line(0, 0, 0);
        x.line(0, 8, 0);
        for (int what : new int[] {-1, 3, LEAST, GREATEST}) {
            due.is("mend(0, " + what + ")", x.mend(0, what), BallCourt.OUTSIDE);
            due.is("mend(3, " + what + ")", x.mend(3, what), BallCourt.UNKNOWN);
        }
        due.is("mend(0, 0)", x.mend(0, 0), 8);
        due.is("mend(1, 0), uncovers four", x.mend(1, 0), 4);
        due.is("mend(2, 0)", x.mend(2, 0), 0);
        x.barred(1, 2, true);
        due.is("mend(0, 0), over kinds alone", x.mend(0, 0), 6);
        x.repeal(0, true);
        due.is("mend(0, 0), if it came back", x.mend(0, 0), 6);
        due.is("mend(1, 0)", x.mend(1, 0), 6);
        due.is("about(0, 3), mend changes nothing", x.about(0, 3), 1);
        due.is("law(1, 0), mend changes nothing", x.law(1, 0), 1);
        // The other ruling is play on as well: neither ruling nor covering turns.
        x.repeal(2, true);
        x.repeal(1, true);
        x.line(9, 0, 0);
        due.is("mend(0, 0)", x.mend(0, 0), 6);
        due.is("mend(3, 0)", x.mend(3, 0), 3);
        due.is("mend(1, 0), if it came back", x.mend(1, 0), 9);
    }

    private static void mendTurnsCasesOfBarredKinds() {
        due.promise(22);
        BallCourt x = new BallCourt();
        x.line(1, 0, 1);
        x.line(0, 8, 2);
        Courts.momentOf(x, 3);
        Courts.momentOf(x, 5);
        Courts.momentOf(x, 8);
        Courts.momentOf(x, 2);
        x.make(0);
        x.make(1);
        x.make(1);
        x.make(2);
        due.is("mend(0, 1)", x.mend(0, 1), 3);
        due.is("mend(1, 1)", x.mend(1, 1), 0);
        x.make(3);
        due.is("mend(1, 1)", x.mend(1, 1), 1);
        x.barred(0, 1, true);
        due.is("mend(0, 1), worked as if it were a kind", x.mend(0, 1), 3);
        x.repeal(0, true);
        due.is("mend(0, 1), if it came back", x.mend(0, 1), 3);
        due.is("mend(1, 1)", x.mend(1, 1), 4);
    }

    private static void mendTurnsVerdicts() {
        due.promise(22);
        BallCourt x = new BallCourt();
        x.line(1, 0, 1);
        x.line(2, 0, 2);
        Courts.momentOf(x, 1);
        Courts.momentOf(x, 3);
        Courts.momentOf(x, 2);
        x.moment();
        x.tell(3, 0, 0, 1);
        due.is("mend(0, 2)", x.mend(0, 2), 3);
        due.is("mend(1, 2)", x.mend(1, 2), 1);
        x.rule(0, 1);
        due.is("mend(0, 2), one ruled by an umpire", x.mend(0, 2), 2);
        x.make(1);
        due.is("mend(0, 2), three bound by a case", x.mend(0, 2), 0);
        due.is("mend(1, 2)", x.mend(1, 2), 1);
        x.repeal(1, true);
        due.is("mend(1, 2), if it came back", x.mend(1, 2), 1);
        due.is("verdict(2), mend changes nothing", x.verdict(2), 0);
        due.is("told(3)", x.told(3), 4);
        x.facts(7);
        x.line(0, 0, 1);
        for (int m = 0; m < 30; m++) {
            x.moment();
        }
        due.is("mend(0, 0), all kinds", x.mend(0, 0), 128);
        due.is("mend(0, 2), all moments", x.mend(0, 2), 30);
    }
}
