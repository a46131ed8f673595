import java.util.Random;

/** All promises at once: long runs of calls, each answer held against PlainCourt's. */
public final class ModelTest {
    private static final Due due = new Due("ModelTest");
    // Nothing is promised of an object behind its 512th call, so a run ends there.
    private static final int RUNS = 2500, CALLS = 512;
    private static final int[] FAR = {Integer.MIN_VALUE, Integer.MIN_VALUE + 1, -129, -32, -8, -7, -6, -5, -4, -3, -2,
        8, 12, 13, 20, 21, 30, 31, 32, 33, 63, 64, 127, 128, 129, 1 << 16, Integer.MAX_VALUE - 1, Integer.MAX_VALUE};

    private final Random random;
    private final BallCourt x = new BallCourt();
    private final PlainCourt y = new PlainCourt();
    // How often a run makes the book anew; seldom, or no run would come far.
    private final int anew;
    private final boolean fewFacts;
    private int calls;

    private ModelTest(int seed) {
        random = new Random(seed);
        anew = seed % 3 == 0 ? 40 : 1000;
        fewFacts = seed % 2 == 0;
    }

    public static void main(String[] args) {
        for (int seed = 0; seed < RUNS; seed++) {
            due.promise(seed);
            ModelTest run = new ModelTest(seed);
            while (run.calls < CALLS) {
                run.step();
            }
        }
        due.end();
    }

    /** One call on the object; what a step asks beside it, it asks of the plain court. */
    private void is(String call, int got, int want) {
        calls++;
        due.is(call, got, want);
    }

    private int below(int n) {
        return random.nextInt(n);
    }

    /** Mostly a number that is there, at times one off the edge, at times one far away. */
    private int near(int n) {
        int dice = below(40);
        if (dice == 0) {
            return FAR[below(FAR.length)];
        }
        if (dice == 1) {
            return below(2) == 0 ? -1 : n;
        }
        return n == 0 ? 0 : below(n);
    }

    private int line() {
        return near(y.told(2));
    }

    private int moment() {
        return near(y.told(3));
    }

    private int kind() {
        return near(1 << y.told(0));
    }

    private int fewBits() {
        return kind() & (below(3) == 0 ? -1 : kind());
    }

    private void step() {
        if (below(3) == 0) {
            ask(below(15));
        } else {
            change();
        }
    }

    private void change() {
        int dice = below(100);
        if (below(anew) == 0) {
            int n = fewFacts ? 1 + below(3) : near(8);
            is("facts(" + n + ")", x.facts(n), y.facts(n));
        } else if (dice < 4) {
            int a = near(y.told(0)), b = near(y.told(0));
            boolean is = below(3) == 0;
            is("barred(" + a + ", " + b + ", " + is + ")", x.barred(a, b, is), y.barred(a, b, is));
        } else if (dice < 12) {
            int must = fewBits(), ruling = near(5);
            int mustNot = below(10) == 0 ? fewBits() : fewBits() & ~must;
            is("line(" + must + ", " + mustNot + ", " + ruling + ")",
                x.line(must, mustNot, ruling), y.line(must, mustNot, ruling));
        } else if (dice < 20) {
            int a = line(), b = line();
            int j = below(6) == 0 ? a : Math.max(a, b), i = below(6) == 0 ? b : Math.min(a, b);
            is("except(" + j + ", " + i + ")", x.except(j, i), y.except(j, i));
        } else if (dice < 26) {
            int line = line();
            boolean is = below(2) == 0;
            is("repeal(" + line + ", " + is + ")", x.repeal(line, is), y.repeal(line, is));
        } else if (dice < 34) {
            is("moment()", x.moment(), y.moment());
        } else if (dice < 66) {
            tell(moment(), near(3), near(y.told(0)), near(3));
        } else if (dice < 76) {
            tellAll();
        } else if (dice < 84) {
            int m = moment(), ruling = below(2) == 0 ? -1 : near(5);
            is("rule(" + m + ", " + ruling + ")", x.rule(m, ruling), y.rule(m, ruling));
        } else if (dice < 96) {
            int m = moment();
            is("make(" + m + ")", x.make(m), y.make(m));
        } else {
            int n = near(21);
            is("goal(" + n + ")", x.goal(n), y.goal(n));
        }
    }

    /** One witness tells all facts of a moment; where another one told the other way, it tells nothing now. */
    private void tellAll() {
        int m = moment(), w = near(3);
        for (int fact = 0; fact < y.told(0); fact++) {
            tell(m, w, fact, below(2));
            for (int other = 0; other < 3; other++) {
                if (other != w && inDoubt(m, fact)) {
                    tell(m, other, fact, 2);
                }
            }
        }
    }

    private boolean inDoubt(int m, int fact) {
        int doubt = y.known(m, 2);
        return doubt >= 0 && (doubt >> fact & 1) == 1;
    }

    private void tell(int m, int w, int fact, int v) {
        if (calls < CALLS) {
            is("tell(" + m + ", " + w + ", " + fact + ", " + v + ")", x.tell(m, w, fact, v), y.tell(m, w, fact, v));
        }
    }

    private void ask(int which) {
        int line = line(), m = moment(), kind = kind(), ruling = near(5), k = near(y.told(4));
        int two = near(2), three = near(3), four = near(4), six = near(6), seven = near(7), i = near(20) - 1;
        switch (which) {
            case 0 -> is("about(" + line + ", " + six + ")", x.about(line, six), y.about(line, six));
            case 1 -> is("holds(" + line + ", " + kind + ")", x.holds(line, kind), y.holds(line, kind));
            case 2 -> is("law(" + kind + ", " + two + ")", x.law(kind, two), y.law(kind, two));
            case 3 -> is("open(" + i + ")", x.open(i), y.open(i));
            case 4 -> is("idle(" + line + ")", x.idle(line), y.idle(line));
            case 5 -> is("known(" + m + ", " + four + ")", x.known(m, four), y.known(m, four));
            case 6 -> is("proof(" + m + ", " + ruling + ")", x.proof(m, ruling), y.proof(m, ruling));
            case 7 -> is("binds(" + m + ")", x.binds(m), y.binds(m));
            case 8 -> is("verdict(" + m + ")", x.verdict(m), y.verdict(m));
            case 9 -> is("ofCase(" + k + ", " + three + ")", x.ofCase(k, three), y.ofCase(k, three));
            case 10 -> is("turned()", x.turned(), y.turned());
            case 11 -> is("mend(" + line + ", " + three + ")", x.mend(line, three), y.mend(line, three));
            case 12 -> is("appeal(" + m + ", " + ruling + ")", x.appeal(m, ruling), y.appeal(m, ruling));
            case 13 -> {
                int behind = near(y.told(3) + 1);
                is("score(" + behind + ", " + four + ")", x.score(behind, four), y.score(behind, four));
            }
            default -> is("told(" + seven + ")", x.told(seven), y.told(seven));
        }
    }
}
