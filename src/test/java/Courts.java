import java.util.ArrayList;
import java.util.List;

/** Courts that tests begin from, and all that can be seen of a court. */
final class Courts {
    private Courts() {
    }

    /** A moment of which the first witness tells all facts, as they are in a kind. */
    static int momentOf(BallCourt x, int kind) {
        int m = x.moment();
        for (int fact = 0; fact < x.told(0); fact++) {
            x.tell(m, 0, fact, kind >> fact & 1);
        }
        return m;
    }

    /** A court on which these moments are played, each as an umpire ruled. */
    static BallCourt ruled(int goal, int... rulings) {
        BallCourt x = new BallCourt();
        x.goal(goal);
        for (int ruling : rulings) {
            x.rule(x.moment(), ruling);
        }
        return x;
    }

    /** Some of all: 3 facts, two of them barred, 4 lines, one repealed, 5 moments, 3 cases. */
    static BallCourt some() {
        BallCourt x = new BallCourt();
        x.facts(3);
        x.goal(7);
        x.line(1, 2, 1);
        x.line(4, 0, 3);
        x.line(4, 1, 2);
        x.line(0, 0, 2);
        x.except(2, 0);
        x.except(2, 1);
        x.repeal(3, true);
        momentOf(x, 1);
        momentOf(x, 6);
        momentOf(x, 4);
        x.moment();
        x.tell(3, 0, 0, 1);
        x.tell(3, 1, 2, 0);
        x.tell(3, 2, 2, 1);
        x.moment();
        x.make(0);
        x.make(1);
        x.rule(2, 4);
        x.make(2);
        x.rule(0, 3);
        x.barred(2, 1, true);
        return x;
    }

    /** As much of all as there may be, of one fact: 12 lines, 30 moments, 12 cases. */
    static BallCourt full() {
        BallCourt x = new BallCourt();
        x.facts(1);
        x.goal(20);
        for (int line = 0; line < 12; line++) {
            x.line(line & 1, 0, line % 5);
        }
        x.except(11, 2);
        x.repeal(0, true);
        for (int m = 0; m < 30; m++) {
            x.moment();
        }
        x.tell(0, 1, 0, 1);
        x.tell(29, 2, 0, 0);
        for (int k = 0; k < 12; k++) {
            x.make(k % 2 == 0 ? 0 : 29);
        }
        return x;
    }

    /** All that the calls which ask tell of a court, and what the calls that change tell of it ahead. */
    static List<Integer> seen(BallCourt x) {
        List<Integer> all = new ArrayList<>();
        for (int what = 0; what < 7; what++) {
            all.add(x.told(what));
        }
        all.add(x.turned());
        seenLaws(x, all);
        seenMoments(x, all);
        seenBehind(x, all);
        return all;
    }

    private static void seenLaws(BallCourt x, List<Integer> all) {
        int kinds = 1 << x.told(0), lines = x.told(2), cases = x.told(4);
        for (int kind = 0; kind < kinds; kind++) {
            all.add(x.law(kind, 0));
        }
        for (int line = 0; line < lines; line++) {
            for (int what = 0; what < 5; what++) {
                all.add(x.about(line, what));
            }
            all.add(x.idle(line));
            all.add(x.mend(line, 2));
        }
        for (int k = 0; k < cases; k++) {
            for (int what = 0; what < 3; what++) {
                all.add(x.ofCase(k, what));
            }
        }
    }

    private static void seenMoments(BallCourt x, List<Integer> all) {
        int moments = x.told(3);
        for (int m = 0; m < moments; m++) {
            all.add(x.known(m, 0));
            all.add(x.known(m, 1));
            all.add(x.binds(m));
            all.add(x.score(m + 1, m % 4));
        }
    }

    /** What only calls that change tell; so these come last. */
    private static void seenBehind(BallCourt x, List<Integer> all) {
        int facts = x.told(0), moments = x.told(3);
        for (int m = 0; m < moments; m++) {
            all.add(x.rule(m, -1));
            all.add(x.verdict(m));
            if (m < 5) {
                for (int told = 0; told < 3 * facts; told++) {
                    all.add(x.tell(m, told % 3, told / 3, 2));
                }
            }
        }
        for (int a = 1; a < facts; a++) {
            for (int b = 0; b < a; b++) {
                all.add(x.barred(a, b, false));
            }
        }
        all.add(x.goal(1));
    }

    /** Numbers that are not in lo to hi: just off the edges, far away, and such as come round to the same bits. */
    static int[] off(int lo, int hi) {
        int[] tried = {lo - 1, lo - 2, hi + 1, hi + 2, lo - 32, lo + 32, hi + 32, lo + 64, lo + 128, lo + 256,
            hi - 256, lo + (1 << 16), hi - (1 << 16), 1 << 30, Integer.MIN_VALUE, Integer.MIN_VALUE + 1,
            Integer.MAX_VALUE - 1, Integer.MAX_VALUE};
        int count = 0;
        for (int n : tried) {
            if (n < lo || n > hi) {
                tried[count++] = n;
            }
        }
        return java.util.Arrays.copyOf(tried, count);
    }
}
