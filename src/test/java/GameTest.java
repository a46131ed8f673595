/** Promises 23 to 25: the goal, the score worked anew, and appeals. */
public final class GameTest {
    private static final Due due = new Due("GameTest");
    private static final int LEAST = Integer.MIN_VALUE, GREATEST = Integer.MAX_VALUE;

    public static void main(String[] args) {
        goal();
        score();
        scoreOfFaults();
        scoreBehindTheEnd();
        scoreWorkedAnew();
        scoreRefused();
        appeal();
        appealFollowsTheLaw();
        appealRefused();
        due.end();
    }

    private static void stands(BallCourt x, int behind, int hoops0, int hoops1, int striker, int winner) {
        due.is("score(" + behind + ", 0)", x.score(behind, 0), hoops0);
        due.is("score(" + behind + ", 1)", x.score(behind, 1), hoops1);
        due.is("score(" + behind + ", 2)", x.score(behind, 2), striker);
        due.is("score(" + behind + ", 3)", x.score(behind, 3), winner);
    }

    private static void goal() {
        due.promise(23);
        BallCourt x = new BallCourt();
        int before = 5;
        for (int n : new int[] {1, 20, 7, 7}) {
            due.is("goal(" + n + ")", x.goal(n), before);
            due.is("told(5)", x.told(5), n);
            before = n;
        }
        for (int n : new int[] {0, 21, -1, LEAST, GREATEST}) {
            due.is("goal(" + n + ")", x.goal(n), BallCourt.OUTSIDE);
            due.is("told(5)", x.told(5), 7);
        }
    }

    private static void score() {
        due.promise(24);
        int none = BallCourt.NONE;
        BallCourt x = Courts.ruled(3, 0, 1, 4, 2, 1, 2, 0, 1, 1);
        stands(x, 0, 0, 0, 0, none);
        stands(x, 1, 0, 0, 0, none);
        stands(x, 2, 1, 0, 0, none);
        stands(x, 3, 1, 0, 0, none);
        stands(x, 4, 1, 0, 1, none);
        stands(x, 5, 1, 1, 1, none);
        stands(x, 6, 1, 1, 0, none);
        stands(x, 7, 1, 1, 0, none);
        stands(x, 8, 2, 1, 0, none);
        stands(x, 9, 3, 1, 0, 0);
    }

    private static void scoreOfFaults() {
        due.promise(24);
        int none = BallCourt.NONE;
        BallCourt x = Courts.ruled(2, 3, 3, 3);
        stands(x, 1, 0, 1, 1, none);
        stands(x, 2, 1, 1, 0, none);
        stands(x, 3, 1, 2, 1, 1);
        x.goal(1);
        stands(x, 3, 0, 1, 1, 1);
    }

    private static void scoreBehindTheEnd() {
        due.promise(24);
        BallCourt x = Courts.ruled(2, 1, 1, 1, 3, 2, 3);
        for (int behind = 2; behind <= 6; behind++) {
            stands(x, behind, 2, 0, 0, 0);
        }
        x = Courts.ruled(1, 3, 3, 1, 2);
        for (int behind = 1; behind <= 4; behind++) {
            stands(x, behind, 0, 1, 1, 1);
        }
        int[] hoops = new int[30];
        java.util.Arrays.fill(hoops, 1);
        x = Courts.ruled(20, hoops);
        stands(x, 19, 19, 0, 0, BallCourt.NONE);
        stands(x, 20, 20, 0, 0, 0);
        stands(x, 30, 20, 0, 0, 0);
        due.promise(25);
        due.is("appeal(19, 0), of thirty", x.appeal(19, 0), 19);
        due.is("appeal(20, 0), of thirty", x.appeal(20, 0), BallCourt.NONE);
        due.is("appeal(29, 3), of thirty", x.appeal(29, 3), BallCourt.NONE);
        x.goal(5);
        due.is("appeal(4, 2), the winner's hoop", x.appeal(4, 2), 4);
        due.is("appeal(5, 2), behind it", x.appeal(5, 2), BallCourt.NONE);
    }

    private static void scoreWorkedAnew() {
        due.promise(24);
        BallCourt x = new BallCourt();
        x.goal(2);
        x.line(1, 0, 1);
        x.line(0, 1, 2);
        for (int m = 0; m < 3; m++) {
            x.moment();
            x.tell(m, 0, 0, m == 1 ? 0 : 1);
        }
        stands(x, 3, 1, 1, 1, BallCourt.NONE);
        x.tell(1, 0, 0, 1);
        stands(x, 3, 2, 0, 0, 0);
        x.repeal(0, true);
        stands(x, 3, 0, 0, 0, BallCourt.NONE);
        x.rule(0, 3);
        stands(x, 3, 0, 1, 1, BallCourt.NONE);
        x.goal(1);
        stands(x, 3, 0, 1, 1, 1);
    }

    private static void scoreRefused() {
        due.promise(24);
        BallCourt x = Courts.ruled(5, 1, 1);
        for (int behind : new int[] {-1, 3, 30, LEAST, GREATEST}) {
            due.is("score(" + behind + ", 0)", x.score(behind, 0), BallCourt.OUTSIDE);
        }
        for (int what : new int[] {-1, 4, LEAST, GREATEST}) {
            due.is("score(0, " + what + ")", x.score(0, what), BallCourt.OUTSIDE);
        }
        stands(x, 2, 2, 0, 0, BallCourt.NONE);
    }

    private static void appeal() {
        due.promise(25);
        BallCourt x = Courts.ruled(2, 0, 2, 4, 1, 1, 3);
        // For each moment and ruling: whether something would be other behind it.
        String[] other = {"01110", "11011", "01110", "10111", "10111", "00000"};
        for (int m = 0; m < 6; m++) {
            for (int ruling = 0; ruling < 5; ruling++) {
                int want = other[m].charAt(ruling) == '1' ? m : BallCourt.NONE;
                due.is("appeal(" + m + ", " + ruling + ")", x.appeal(m, ruling), want);
            }
        }
        due.is("score(6, 3), appeal changes nothing", x.score(6, 3), 1);
        due.is("verdict(1), appeal changes nothing", x.verdict(1), 2);
        x.goal(1);
        due.is("appeal(4, 0), the game won ahead", x.appeal(4, 0), BallCourt.NONE);
        due.is("appeal(3, 0)", x.appeal(3, 0), 3);
    }

    private static void appealFollowsTheLaw() {
        due.promise(25);
        BallCourt x = new BallCourt();
        x.line(0, 0, 3);
        x.moment();
        x.moment();
        due.is("appeal(1, 3)", x.appeal(1, 3), BallCourt.NONE);
        due.is("appeal(1, 1)", x.appeal(1, 1), 1);
        due.is("appeal(0, 2), the hoop alone is other", x.appeal(0, 2), 0);
        x.repeal(0, true);
        due.is("appeal(1, 4)", x.appeal(1, 4), BallCourt.NONE);
        due.is("appeal(1, 2), who strikes alone is other", x.appeal(1, 2), 1);
    }

    private static void appealRefused() {
        due.promise(25);
        BallCourt x = Courts.ruled(5, 1);
        for (int m : new int[] {-1, 1, 30, LEAST, GREATEST}) {
            due.is("appeal(" + m + ", 0)", x.appeal(m, 0), BallCourt.UNKNOWN);
            due.is("appeal(" + m + ", 9)", x.appeal(m, 9), BallCourt.UNKNOWN);
        }
        for (int ruling : new int[] {-1, 5, LEAST, GREATEST}) {
            due.is("appeal(0, " + ruling + ")", x.appeal(0, ruling), BallCourt.OUTSIDE);
        }
    }
}
