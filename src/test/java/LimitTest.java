/** Each sentence of the document that names a limit, an edge, or what is empty; a method for each. */
public final class LimitTest {
    private static final Due due = new Due("LimitTest");
    private static final int NONE = BallCourt.NONE, UNKNOWN = BallCourt.UNKNOWN, OUTSIDE = BallCourt.OUTSIDE,
        FULL = BallCourt.FULL;

    public static void main(String[] args) {
        factsFrom1To7();
        kindsAreNumbers();
        noKindHasBoth();
        linesAreTwelve();
        mustNotIsNoneOfTheFirst();
        rulingsAre0To4();
        exceptFromALesserNumber();
        repealedIsAsIfItWereNot();
        holdsByAllAndNone();
        holdsByNoExceptionThatHolds();
        exceptsSoGivesNoRuling();
        leastNumberThatHolds();
        notCoveredIsPlayOn();
        namedAndSoOn();
        momentsAreThirty();
        witnessesTellNothingAtFirst();
        knownByOneAndNoneTheOtherWay();
        mayBeOfAllSomeNone();
        umpireAheadOfAll();
        playOnIfMayBeIsNone();
        caseAheadOfTheLaw();
        lawOnlyIfTheSameForAll();
        casesAreTwelve();
        caseNamesAllIfNotCovered();
        caseNamesAsItIsMade();
        bindsIfEachNamedIsKnown();
        bindsAllIfNothingIsNamed();
        kindOfACaseStays();
        sideNoughtStrikesAtFirst();
        goalFrom1To20();
        firstToGoalHasWon();
        behindTheEndNothing();
        newObject();
        factsAnewButGoal();
        openByNumbers();
        idleAlsoIfTakenBack();
        turnedAsBits();
        mendOfNoneAndOfAll();
        scoreOfNoneToAll();
        appealToTheFirstOrNone();
        coveredOfAllKinds();
        due.end();
    }

    private static void factsFrom1To7() {
        due.sentence(2, "FACTS 0 to f - 1 (f 1 to 7; 4 at first)");
        BallCourt x = new BallCourt();
        due.is("told(0)", x.told(0), 4);
        x.moment();
        due.is("tell of fact 3", x.tell(0, 0, 3, 1), 2);
        due.is("tell of fact 4", x.tell(0, 0, 4, 1), UNKNOWN);
        for (int f = 1; f <= 7; f++) {
            x.facts(f);
            x.moment();
            due.is("told(0)", x.told(0), f);
            due.is("known(0, 2) of " + f, x.known(0, 2), (1 << f) - 1);
            due.is("the last of " + f, x.tell(0, 0, f - 1, 1), 2);
            due.is("known(0, 0) of " + f, x.known(0, 0), 1 << f - 1);
            due.is("one behind the last of " + f, x.tell(0, 0, f, 1), UNKNOWN);
            due.is("barred, the first and the last of " + f, x.barred(0, f - 1, true), f == 1 ? UNKNOWN : 0);
            due.is("barred, one behind the last of " + f, x.barred(0, f, true), UNKNOWN);
        }
        due.is("facts(0)", x.facts(0), OUTSIDE);
        due.is("facts(8)", x.facts(8), OUTSIDE);
    }

    private static void kindsAreNumbers() {
        due.sentence(2, "each so or not in a KIND of moment (a number: bit k is FACT k)");
        BallCourt x = new BallCourt();
        for (int f = 1; f <= 7; f++) {
            x.facts(f);
            x.line(1 << f - 1, 0, 4);
            due.is("told(1) of " + f, x.told(1), 1 << f);
            due.is("the least kind of " + f, x.law(0, 1), 0);
            due.is("the last without the last fact of " + f, x.law((1 << f - 1) - 1, 1), 0);
            due.is("the first with the last fact of " + f, x.law(1 << f - 1, 1), 4);
            due.is("the greatest kind of " + f, x.law((1 << f) - 1, 1), 4);
            due.is("one behind the greatest of " + f, x.law(1 << f, 1), OUTSIDE);
            due.is("below the least of " + f, x.law(-1, 1), OUTSIDE);
        }
    }

    private static void noKindHasBoth() {
        due.sentence(3, "no KIND has both (KINDS with both are none)");
        BallCourt x = new BallCourt();
        x.facts(7);
        for (int a = 0; a < 7; a++) {
            for (int b = a + 1; b < 7; b++) {
                due.is("barred(" + b + ", " + a + ", true)", x.barred(b, a, true), 0);
                for (int kind : new int[] {1 << a | 1 << b, 127}) {
                    due.is("law of a kind with both", x.law(kind, 1), OUTSIDE);
                }
            }
        }
        due.is("told(1), all pairs barred", x.told(1), 8);
        due.is("open(7), the greatest that is left", x.open(7), 64);
        due.is("open(8)", x.open(8), NONE);
        due.is("law(0, 1), a kind still", x.law(0, 1), 0);
        x.barred(6, 5, false);
        due.is("told(1), one pair less", x.told(1), 9);
        due.is("open(8)", x.open(8), 96);
        x.facts(2);
        due.is("barred(0, 1, true)", x.barred(0, 1, true), 0);
        due.is("told(1), of two facts", x.told(1), 3);
        due.is("law(3, 0)", x.law(3, 0), OUTSIDE);
    }

    private static void linesAreTwelve() {
        due.sentence(4, "LINES, 12 at most, numbered from 0 on");
        BallCourt x = new BallCourt();
        for (int n = 0; n < 12; n++) {
            due.is("told(2)", x.told(2), n);
            due.is("about(" + n + ", 0), not yet there", x.about(n, 0), UNKNOWN);
            due.is("line(0, 0, 0)", x.line(0, 0, 0), n);
        }
        due.is("line(0, 0, 0), a 13th", x.line(0, 0, 0), FULL);
        due.is("told(2)", x.told(2), 12);
        due.is("about(12, 0)", x.about(12, 0), UNKNOWN);
        x.facts(4);
        due.is("line(0, 0, 0), the book anew", x.line(0, 0, 0), 0);
    }

    private static void mustNotIsNoneOfTheFirst() {
        due.sentence(4, "FACTS that must be so (bits), FACTS that must not be (bits, none of the first)");
        BallCourt x = new BallCourt();
        x.facts(7);
        due.is("line(127, 0, 0)", x.line(127, 0, 0), 0);
        due.is("line(0, 127, 0)", x.line(0, 127, 0), 1);
        due.is("line(63, 64, 0)", x.line(63, 64, 0), 2);
        due.is("line(0, 0, 0)", x.line(0, 0, 0), 3);
        for (int fact = 0; fact < 7; fact++) {
            due.is("line of fact " + fact + ", twice", x.line(1 << fact, 1 << fact, 0), OUTSIDE);
            due.is("line of all, not " + fact, x.line(127, 1 << fact, 0), OUTSIDE);
            due.is("line of " + fact + ", not all", x.line(1 << fact, 127, 0), OUTSIDE);
            due.is("line of " + fact + ", not all others", x.line(1 << fact, 127 - (1 << fact), 0), 4 + fact);
        }
        due.is("line(128, 0, 0)", x.line(128, 0, 0), OUTSIDE);
        due.is("line(0, 128, 0)", x.line(0, 128, 0), OUTSIDE);
        due.is("told(2)", x.told(2), 11);
    }

    private static void rulingsAre0To4() {
        due.sentence(4, "a RULING (0 to 4)");
        BallCourt x = new BallCourt();
        x.moment();
        for (int ruling = -3; ruling <= 6; ruling++) {
            boolean is = ruling >= 0 && ruling <= 4;
            int n = x.told(2);
            due.is("line of ruling " + ruling, x.line(0, 0, ruling), is ? n : OUTSIDE);
            due.is("proof of ruling " + ruling, x.proof(0, ruling) == OUTSIDE ? 0 : 1, is ? 1 : 0);
            due.is("appeal to ruling " + ruling, x.appeal(0, ruling) == OUTSIDE ? 0 : 1, is ? 1 : 0);
        }
        for (int ruling = 0; ruling <= 4; ruling++) {
            due.is("about(" + ruling + ", 2)", x.about(ruling, 2), ruling);
        }
    }

    private static void exceptFromALesserNumber() {
        due.sentence(5, "A LINE may EXCEPT from a LINE with a lesser number");
        BallCourt x = new BallCourt();
        for (int n = 0; n < 12; n++) {
            x.line(0, 0, 0);
        }
        for (int i = 0; i < 12; i++) {
            for (int j = 0; j < 12; j++) {
                due.is("except(" + j + ", " + i + ")", x.except(j, i), j > i ? j - i : BallCourt.NO);
            }
        }
        for (int i = 0; i < 12; i++) {
            due.is("about(" + i + ", 4)", x.about(i, 4), 0xfff & ~((2 << i) - 1));
        }
        due.is("law(0, 0), the last alone holds", x.law(0, 0), NONE);
        due.is("holds(11, 0)", x.holds(11, 0), 1);
        due.is("holds(10, 0)", x.holds(10, 0), 0);
        due.is("except(11, 0), again", x.except(11, 0), BallCourt.NO);
    }

    private static void repealedIsAsIfItWereNot() {
        due.sentence(6, "it may be REPEALED (then it is as if it were not)");
        BallCourt x = new BallCourt();
        for (int n = 0; n < 12; n++) {
            x.line(0, 0, 1 + n % 4);
            x.repeal(n, true);
            due.is("holds(" + n + ", 15), repealed", x.holds(n, 15), 0);
        }
        due.is("open(-1), all repealed", x.open(-1), 16);
        due.is("told(6), all repealed", x.told(6), 0);
        due.is("law(0, 1)", x.law(0, 1), 0);
        x.moment();
        due.is("verdict(0), all repealed", x.verdict(0), 0);
        x.repeal(11, false);
        due.is("law(0, 0), the last is back", x.law(0, 0), 11);
        due.is("verdict(0), the last is back", x.verdict(0), 4);
        x.repeal(11, true);
        x.facts(1);
        x.line(0, 0, 1);
        x.line(1, 0, 2);
        x.except(1, 0);
        due.is("holds(0, 1), excepted from", x.holds(0, 1), 0);
        x.repeal(1, true);
        due.is("holds(0, 1), the exception repealed", x.holds(0, 1), 1);
        due.is("law(1, 1)", x.law(1, 1), 1);
    }

    private static void holdsByAllAndNone() {
        due.sentence(8, "if that has all FACTS that must be so and none that must not");
        BallCourt x = new BallCourt();
        x.line(0, 0, 1);
        x.line(15, 0, 1);
        x.line(0, 15, 1);
        x.line(12, 3, 1);
        for (int kind = 0; kind < 16; kind++) {
            due.is("holds(0, " + kind + "), no facts at all", x.holds(0, kind), 1);
            due.is("holds(1, " + kind + "), all must be", x.holds(1, kind), kind == 15 ? 1 : 0);
            due.is("holds(2, " + kind + "), all must not be", x.holds(2, kind), kind == 0 ? 1 : 0);
            due.is("holds(3, " + kind + "), two and two", x.holds(3, kind), kind == 12 ? 1 : 0);
        }
    }

    private static void holdsByNoExceptionThatHolds() {
        due.sentence(8, "and no LINE that EXCEPTS from it HOLDS");
        BallCourt x = chainOfTwelve();
        for (int n = 0; n < 12; n++) {
            due.is("holds(" + n + ", 0), a chain", x.holds(n, 0), n % 2);
        }
        x.repeal(11, true);
        for (int n = 0; n < 12; n++) {
            due.is("holds(" + n + ", 0), its end repealed", x.holds(n, 0), n == 11 ? 0 : 1 - n % 2);
        }
        due.is("law(0, 0), its end repealed", x.law(0, 0), 0);
        x.repeal(1, true);
        x.repeal(11, false);
        due.is("holds(0, 0), its second repealed", x.holds(0, 0), 1);
        due.is("holds(2, 0), its second repealed", x.holds(2, 0), 0);
        x.facts(4);
        x.line(0, 0, 1);
        x.line(1, 0, 1);
        x.line(2, 0, 1);
        x.except(1, 0);
        x.except(2, 0);
        for (int kind = 0; kind < 4; kind++) {
            due.is("holds(0, " + kind + "), two exceptions", x.holds(0, kind), kind == 0 ? 1 : 0);
        }
    }

    /** Twelve lines that hold for every kind but for each other; each excepts from the one ahead of it. */
    private static BallCourt chainOfTwelve() {
        BallCourt x = new BallCourt();
        for (int n = 0; n < 12; n++) {
            x.line(0, 0, 3);
        }
        for (int n = 1; n < 12; n++) {
            due.is("except(" + n + ", " + (n - 1) + ")", x.except(n, n - 1), 1);
        }
        return x;
    }

    private static void exceptsSoGivesNoRuling() {
        due.sentence(9, "A LINE that EXCEPTS from some other one (REPEALED or not) gives no RULING of its own");
        BallCourt x = chainOfTwelve();
        due.is("law(0, 0), line 1 holds, but excepts", x.law(0, 0), NONE);
        for (int n = 0; n < 11; n++) {
            x.repeal(n, true);
        }
        due.is("holds(11, 0)", x.holds(11, 0), 1);
        due.is("law(0, 0), line 11 excepts from a repealed one", x.law(0, 0), NONE);
        due.is("law(0, 1)", x.law(0, 1), 0);
        x.facts(1);
        x.line(0, 0, 1);
        x.line(0, 0, 2);
        x.repeal(0, true);
        due.is("law(0, 0), it does not except yet", x.law(0, 0), 1);
        due.is("except(1, 0), from a repealed one", x.except(1, 0), 1);
        due.is("law(0, 0), now it does", x.law(0, 0), NONE);
        x.repeal(1, true);
        x.repeal(1, false);
        due.is("law(0, 0), itself repealed and back", x.law(0, 0), NONE);
    }

    private static void leastNumberThatHolds() {
        due.sentence(9, "THE LAW for a KIND: the LINE with the least number that HOLDS and gives one");
        BallCourt x = new BallCourt();
        for (int n = 0; n < 12; n++) {
            x.line(0, 0, n % 5);
        }
        for (int n = 0; n < 12; n++) {
            due.is("law(15, 0), " + n + " repealed", x.law(15, 0), n);
            due.is("law(15, 1), " + n + " repealed", x.law(15, 1), n % 5);
            x.repeal(n, true);
        }
        due.is("law(15, 0), all repealed", x.law(15, 0), NONE);
        for (int n = 11; n >= 0; n--) {
            x.repeal(n, false);
            due.is("law(15, 0), back to " + n, x.law(15, 0), n);
        }
    }

    private static void notCoveredIsPlayOn() {
        due.sentence(9, "the KIND is not COVERED, if there is none (then play on)");
        BallCourt x = new BallCourt();
        for (int kind = 0; kind < 16; kind++) {
            due.is("law(" + kind + ", 0), no lines", x.law(kind, 0), NONE);
            due.is("law(" + kind + ", 1), no lines", x.law(kind, 1), 0);
            due.is("open(" + kind + ")", x.open(kind), kind);
        }
        due.is("open(16)", x.open(16), NONE);
        due.is("told(6)", x.told(6), 0);
        x.line(15, 0, 0);
        due.is("law(15, 0), play on but covered", x.law(15, 0), 0);
        due.is("open(-1), play on but covered", x.open(-1), 15);
        due.is("open(15)", x.open(15), NONE);
        due.is("told(6)", x.told(6), 1);
    }

    private static void namedAndSoOn() {
        due.sentence(7, "and those NAMED by LINES that EXCEPT from it and are not REPEALED, and so on");
        BallCourt x = new BallCourt();
        x.facts(7);
        for (int n = 0; n < 12; n++) {
            x.line(n < 6 ? 1 << n : 0, n == 11 ? 64 : 0, 1);
        }
        for (int n = 1; n < 12; n++) {
            due.is("about(0, 5), a chain to " + (n - 1), x.about(0, 5), n < 6 ? (1 << n) - 1 : 63);
            x.except(n, n - 1);
        }
        due.is("about(0, 5), a chain to the last", x.about(0, 5), 127);
        due.is("about(11, 5)", x.about(11, 5), 64);
        due.is("about(10, 5), itself names nothing", x.about(10, 5), 64);
        x.repeal(8, true);
        due.is("about(0, 5), a link repealed", x.about(0, 5), 63);
        due.is("about(7, 5), the next repealed", x.about(7, 5), 0);
        x.except(9, 7);
        due.is("about(7, 5), a way round it", x.about(7, 5), 64);
        x.repeal(11, true);
        due.is("about(0, 5), the end repealed", x.about(0, 5), 63);
    }

    private static void momentsAreThirty() {
        due.sentence(12, "MOMENTS, 30 at most, numbered from 0 on in the order in which they were played");
        BallCourt x = new BallCourt();
        for (int m = 0; m < 30; m++) {
            due.is("told(3)", x.told(3), m);
            due.is("verdict(" + m + "), not yet played", x.verdict(m), UNKNOWN);
            due.is("moment()", x.moment(), m);
        }
        due.is("moment(), a 31st", x.moment(), FULL);
        due.is("moment(), and again", x.moment(), FULL);
        due.is("told(3)", x.told(3), 30);
        due.is("score(30, 2)", x.score(30, 2), 0);
        due.is("score(31, 2)", x.score(31, 2), OUTSIDE);
        x.facts(4);
        due.is("moment(), the book anew", x.moment(), 0);
    }

    private static void witnessesTellNothingAtFirst() {
        due.sentence(13, "Three WITNESSES tell of each FACT of a MOMENT: so, not so, or nothing (at first)");
        BallCourt x = new BallCourt();
        x.facts(7);
        for (int m = 0; m < 2; m++) {
            x.moment();
            for (int witness = 0; witness < 3; witness++) {
                for (int fact = 0; fact < 7; fact++) {
                    due.is("tell(" + m + ", " + witness + ", " + fact + ")", x.tell(m, witness, fact, m), 2);
                }
            }
        }
        due.is("known(0, 1), all told not so", x.known(0, 1), 127);
        due.is("known(1, 0), all told so", x.known(1, 0), 127);
        due.is("tell(0, 3, 0, 1), a fourth", x.tell(0, 3, 0, 1), OUTSIDE);
        x.facts(7);
        x.moment();
        due.is("tell(0, 2, 6, 0), anew", x.tell(0, 2, 6, 0), 2);
        due.is("known(0, 2)", x.known(0, 2), 63);
    }

    private static void knownByOneAndNoneTheOtherWay() {
        due.sentence(14, "A FACT is KNOWN, if one at least tells of it, and none the other way; else it is in DOUBT");
        for (int all = 0; all < 27; all++) {
            int[] v = {all % 3, all / 3 % 3, all / 9};
            BallCourt x = new BallCourt();
            x.facts(7);
            x.moment();
            boolean so = false, notSo = false;
            for (int witness = 0; witness < 3; witness++) {
                x.tell(0, witness, 6, v[witness]);
                so |= v[witness] == 1;
                notSo |= v[witness] == 0;
            }
            String told = "told " + v[0] + v[1] + v[2];
            due.is(told + ": so", x.known(0, 0), so && !notSo ? 64 : 0);
            due.is(told + ": not so", x.known(0, 1), notSo && !so ? 64 : 0);
            due.is(told + ": in doubt", x.known(0, 2), so == notSo ? 127 : 63);
            due.is(told + ": may be", x.known(0, 3), so == notSo ? 128 : 64);
        }
    }

    private static void mayBeOfAllSomeNone() {
        due.sentence(14, "MAY-BE of a MOMENT: all KINDS that agree with what is KNOWN");
        BallCourt x = new BallCourt();
        x.facts(7);
        x.moment();
        for (int fact = 0; fact < 7; fact++) {
            due.is("known(0, 3), " + fact + " known", x.known(0, 3), 128 >> fact);
            x.tell(0, fact % 3, fact, 1);
        }
        due.is("known(0, 3), all known", x.known(0, 3), 1);
        x.barred(0, 6, true);
        due.is("known(0, 3), no kind", x.known(0, 3), 0);
        x.tell(0, 1, 6, 0);
        due.is("known(0, 3), one in doubt: without it alone", x.known(0, 3), 1);
        x.tell(0, 0, 6, 2);
        due.is("known(0, 3), not so", x.known(0, 3), 1);
        x.moment();
        due.is("known(1, 3), every kind that is left", x.known(1, 3), 96);
    }

    private static void umpireAheadOfAll() {
        due.sentence(17, "as an UMPIRE ruled, if one did");
        BallCourt x = new BallCourt();
        x.line(0, 0, 1);
        Courts.momentOf(x, 3);
        x.make(0);
        for (int ruling = 0; ruling <= 4; ruling++) {
            x.rule(0, ruling);
            due.is("verdict(0), ahead of a case", x.verdict(0), ruling);
            x.barred(0, 1, true);
            due.is("verdict(0), where nothing may be", x.verdict(0), ruling);
            x.barred(0, 1, false);
        }
        due.sentence(18, "-1: no more");
        due.is("rule(0, -1)", x.rule(0, -1), 4);
        due.is("verdict(0)", x.verdict(0), 1);
        due.is("rule(0, -1), none had ruled", x.rule(0, -1), 1);
        due.is("verdict(0)", x.verdict(0), 1);
        due.is("rule(0, 0)", x.rule(0, 0), 1);
        due.is("rule(0, 0), play on is a ruling", x.rule(0, 0), 0);
    }

    private static void playOnIfMayBeIsNone() {
        due.sentence(17, "else play on, if MAY-BE is none at all");
        BallCourt x = new BallCourt();
        x.line(0, 0, 3);
        Courts.momentOf(x, 3);
        x.moment();
        x.tell(1, 2, 0, 1);
        x.tell(1, 1, 1, 1);
        x.barred(1, 0, true);
        due.is("verdict(0), all known", x.verdict(0), 0);
        due.is("verdict(1), two known", x.verdict(1), 0);
        x.barred(1, 0, false);
        due.is("verdict(0)", x.verdict(0), 3);
        x.make(0);
        x.barred(1, 0, true);
        due.is("binds(0), names nothing", x.binds(0), 0);
        due.is("verdict(0), ahead of a case", x.verdict(0), 0);
        due.sentence(15, "in all (2), some (1), none (0) of MAY-BE");
        for (int ruling = 0; ruling <= 4; ruling++) {
            due.is("proof(0, " + ruling + "), nothing may be", x.proof(0, ruling), 0);
        }
    }

    private static void caseAheadOfTheLaw() {
        due.sentence(17, "else, if a CASE BINDS it, that of the first such CASE");
        BallCourt x = new BallCourt();
        x.line(1, 0, 1);
        Courts.momentOf(x, 1);
        Courts.momentOf(x, 9);
        int[] ruled = {4, 2, 3};
        for (int k = 0; k < 3; k++) {
            x.rule(0, ruled[k]);
            due.is("make(0)", x.make(0), k);
        }
        x.rule(0, -1);
        for (int m = 0; m < 2; m++) {
            due.is("binds(" + m + "), the first of three", x.binds(m), 0);
            due.is("verdict(" + m + ")", x.verdict(m), 4);
            due.is("proof(" + m + ", 1), but the law's", x.proof(m, 1), 2);
        }
        x.repeal(0, true);
        due.is("verdict(0), the line repealed", x.verdict(0), 4);
        x.rule(1, 0);
        due.is("make(1), not covered", x.make(1), 3);
        x.rule(1, -1);
        due.is("binds(1), still the first", x.binds(1), 0);
    }

    private static void lawOnlyIfTheSameForAll() {
        due.sentence(17, "else THE LAW's RULING, if it is the same for all of MAY-BE; else play on");
        for (int odd : new int[] {0, 64, 127}) {
            BallCourt x = new BallCourt();
            x.facts(7);
            x.line(odd, 127 - odd, 2);
            x.line(0, 0, 3);
            x.moment();
            due.is("verdict(0), other for kind " + odd, x.verdict(0), 0);
            due.is("proof(0, 3)", x.proof(0, 3), 1);
            due.is("proof(0, 2)", x.proof(0, 2), 1);
            due.is("proof(0, 0)", x.proof(0, 0), 0);
            x.repeal(0, true);
            due.is("verdict(0), the same for 128", x.verdict(0), 3);
            due.is("proof(0, 3)", x.proof(0, 3), 2);
            x.repeal(0, false);
            x.tell(0, 0, 6, odd >= 64 ? 0 : 1);
            due.is("verdict(0), that kind may not be", x.verdict(0), 3);
        }
        BallCourt x = new BallCourt();
        x.line(3, 0, 1);
        x.line(0, 0, 4);
        x.moment();
        due.is("verdict(0)", x.verdict(0), 0);
        x.barred(0, 1, true);
        due.is("verdict(0), the others are no kinds", x.verdict(0), 4);
        x.facts(1);
        x.line(1, 0, 2);
        x.moment();
        due.is("verdict(0), one kind not covered", x.verdict(0), 0);
        x.line(0, 1, 2);
        due.is("verdict(0), the same by two lines", x.verdict(0), 2);
    }

    private static void casesAreTwelve() {
        due.sentence(19, "CASES, 12 at most, numbered from 0 on");
        BallCourt x = new BallCourt();
        Courts.momentOf(x, 5);
        for (int k = 0; k < 12; k++) {
            due.is("told(4)", x.told(4), k);
            due.is("ofCase(" + k + ", 0), not yet made", x.ofCase(k, 0), UNKNOWN);
            x.rule(0, k % 5);
            due.is("make(0)", x.make(0), k);
        }
        due.is("make(0), a 13th", x.make(0), FULL);
        due.is("told(4)", x.told(4), 12);
        due.is("ofCase(12, 0)", x.ofCase(12, 0), UNKNOWN);
        due.is("turned(), all but 0, 5 and 10", x.turned(), 0xfff & ~(1 | 1 << 5 | 1 << 10));
        due.is("ofCase(11, 1)", x.ofCase(11, 1), 1);
        x.facts(4);
        due.is("turned(), the book anew", x.turned(), 0);
        Courts.momentOf(x, 5);
        due.is("make(0), the book anew", x.make(0), 0);
    }

    private static void caseNamesAllIfNotCovered() {
        due.sentence(19, "all FACTS, if that is not COVERED");
        BallCourt x = new BallCourt();
        for (int f = 1; f <= 7; f++) {
            x.facts(f);
            Courts.momentOf(x, 0);
            due.is("make(0)", x.make(0), 0);
            due.is("ofCase(0, 2) of " + f, x.ofCase(0, 2), (1 << f) - 1);
            x.line(0, 0, 1);
            due.is("make(0)", x.make(0), 1);
            due.is("ofCase(1, 2) of " + f + ", covered by a line that names nothing", x.ofCase(1, 2), 0);
        }
    }

    private static void caseNamesAsItIsMade() {
        due.sentence(19, "those NAMED by THE LAW's LINE for its KIND as it is made");
        BallCourt x = new BallCourt();
        x.line(1, 0, 1);
        x.line(2, 4, 2);
        Courts.momentOf(x, 1);
        x.make(0);
        due.is("ofCase(0, 2), of a line alone", x.ofCase(0, 2), 1);
        x.except(1, 0);
        x.make(0);
        due.is("ofCase(1, 2), with what excepts from it", x.ofCase(1, 2), 7);
        x.repeal(1, true);
        x.make(0);
        due.is("ofCase(2, 2), that one repealed", x.ofCase(2, 2), 1);
        x.repeal(0, true);
        x.make(0);
        due.is("ofCase(3, 2), not covered", x.ofCase(3, 2), 15);
        int[] names = {1, 7, 1, 15};
        for (int k = 0; k < 4; k++) {
            due.is("ofCase(" + k + ", 2), as it was made", x.ofCase(k, 2), names[k]);
            due.is("ofCase(" + k + ", 1), as it was made", x.ofCase(k, 1), 1);
            due.is("ofCase(" + k + ", 0), as it was made", x.ofCase(k, 0), 1);
        }
    }

    private static void bindsIfEachNamedIsKnown() {
        due.sentence(16, "It BINDS a MOMENT, if each FACT that it names is KNOWN there, and as in its KIND");
        BallCourt x = new BallCourt();
        x.line(1, 2, 3);
        Courts.momentOf(x, 1);
        due.is("make(0)", x.make(0), 0);
        for (int first = 0; first < 3; first++) {
            for (int second = 0; second < 3; second++) {
                int m = x.moment();
                x.tell(m, 1, 0, first);
                x.tell(m, 2, 1, second);
                due.is("binds, told " + first + second, x.binds(m), first == 1 && second == 0 ? 0 : NONE);
            }
        }
        int m = x.told(3);
        Courts.momentOf(x, 13);
        due.is("binds, others are not as in its kind", x.binds(m), 0);
        x.tell(m, 2, 3, 0);
        due.is("binds, another one is in doubt", x.binds(m), 0);
        x.tell(m, 2, 0, 0);
        due.is("binds, one that it names is in doubt", x.binds(m), NONE);
    }

    private static void bindsAllIfNothingIsNamed() {
        due.sentence(16, "each FACT that it names is KNOWN there: also if it names none");
        BallCourt x = new BallCourt();
        x.line(0, 0, 4);
        Courts.momentOf(x, 15);
        x.moment();
        due.is("binds(1), no cases", x.binds(1), NONE);
        x.make(0);
        due.is("binds(1), nothing known", x.binds(1), 0);
        x.repeal(0, true);
        due.is("verdict(1)", x.verdict(1), 4);
        Courts.momentOf(x, 0);
        due.is("binds(2), all other", x.binds(2), 0);
    }

    private static void kindOfACaseStays() {
        due.sentence(21, "The KIND of a CASE stays, also if its FACTS are BARRED later: THE LAW .. as if it were one");
        BallCourt x = new BallCourt();
        x.line(3, 0, 2);
        Courts.momentOf(x, 3);
        Courts.momentOf(x, 1);
        x.make(0);
        x.barred(0, 1, true);
        due.is("law(3, 1), no kind", x.law(3, 1), OUTSIDE);
        due.is("ofCase(0, 0)", x.ofCase(0, 0), 3);
        due.is("turned()", x.turned(), 0);
        due.is("mend(0, 0), no kind turns", x.mend(0, 0), 0);
        due.is("mend(0, 1), but the case", x.mend(0, 1), 1);
        due.is("idle(0), no kind turns", x.idle(0), 1);
        x.repeal(0, true);
        due.is("turned(), the line repealed", x.turned(), 1);
        due.is("mend(0, 1), if it came back", x.mend(0, 1), 1);
        x.line(0, 0, 2);
        due.is("turned(), by a line made later", x.turned(), 0);
    }

    private static void sideNoughtStrikesAtFirst() {
        due.sentence(24, "two sides, 0 and 1; side 0 strikes at first");
        BallCourt x = new BallCourt();
        due.is("score(0, 0)", x.score(0, 0), 0);
        due.is("score(0, 1)", x.score(0, 1), 0);
        due.is("score(0, 2)", x.score(0, 2), 0);
        due.is("score(0, 3)", x.score(0, 3), NONE);
        x = Courts.ruled(5, 1, 2, 1);
        due.is("score(1, 0)", x.score(1, 0), 1);
        due.is("score(3, 1)", x.score(3, 1), 1);
        due.is("score(0, 2), behind none", x.score(0, 2), 0);
        due.is("score(3, 2), behind all", x.score(3, 2), 1);
        due.is("score(4, 2)", x.score(4, 2), OUTSIDE);
    }

    private static void goalFrom1To20() {
        due.sentence(23, "GOAL (1 to 20 hoops; 5 at first)");
        BallCourt x = new BallCourt();
        due.is("told(5)", x.told(5), 5);
        due.is("goal(0)", x.goal(0), OUTSIDE);
        due.is("goal(21)", x.goal(21), OUTSIDE);
        int before = 5;
        for (int n = 1; n <= 20; n++) {
            due.is("goal(" + n + ")", x.goal(n), before);
            before = n;
        }
        due.is("facts(7)", x.facts(7), 4);
        due.is("told(5), stays", x.told(5), 20);
    }

    private static void firstToGoalHasWon() {
        due.sentence(24, "Who comes to GOAL first has won");
        int[] hoops = new int[30];
        java.util.Arrays.fill(hoops, 1);
        for (int first = 0; first < 2; first++) {
            hoops[0] = first == 0 ? 1 : 2;
            BallCourt x = Courts.ruled(5, hoops);
            for (int goal = 1; goal <= 20; goal++) {
                x.goal(goal);
                due.is("score, one ahead of " + goal, x.score(goal - 1 + first, 3), NONE);
                due.is("score, at " + goal, x.score(goal + first, 3), first);
                due.is("score of all, goal " + goal, x.score(30, first), goal);
                due.is("score of the other one", x.score(30, 1 - first), 0);
            }
        }
        BallCourt x = Courts.ruled(1, 3, 1);
        due.is("score(1, 3), by a fault of the other one", x.score(1, 3), 1);
        due.is("score(1, 1)", x.score(1, 1), 1);
        x = Courts.ruled(2, 3, 3, 3);
        due.is("score(2, 3), one each", x.score(2, 3), NONE);
        due.is("score(3, 3), side 1 by a fault", x.score(3, 3), 1);
        x.goal(1);
        due.is("score(3, 3), the first to come there", x.score(3, 3), 1);
        due.is("score(3, 0), not both", x.score(3, 0), 0);
    }

    private static void behindTheEndNothing() {
        due.sentence(24, "MOMENTS behind that do nothing");
        for (int last = 0; last <= 4; last++) {
            BallCourt x = Courts.ruled(2, 1, 1, last, last);
            for (int behind = 2; behind <= 4; behind++) {
                due.is("score(" + behind + ", 0), " + last, x.score(behind, 0), 2);
                due.is("score(" + behind + ", 1), " + last, x.score(behind, 1), 0);
                due.is("score(" + behind + ", 2), " + last, x.score(behind, 2), 0);
                due.is("score(" + behind + ", 3), " + last, x.score(behind, 3), 0);
            }
            due.is("appeal(2, 3), behind the end", x.appeal(2, 3), NONE);
            due.is("appeal(3, 2), behind the end", x.appeal(3, 2), NONE);
            due.is("appeal(1, 0), the last hoop", x.appeal(1, 0), 1);
        }
    }

    private static void newObject() {
        due.sentence(1, "4 FACTS, no LINES, MOMENTS, CASES; GOAL 5");
        int[] first = {4, 16, 0, 0, 0, 5, 0};
        for (int what = 0; what < 7; what++) {
            due.is("told(" + what + ")", new BallCourt().told(what), first[what]);
        }
        BallCourt x = new BallCourt();
        due.is("line(15, 0, 4)", x.line(15, 0, 4), 0);
        due.is("moment()", x.moment(), 0);
        due.is("known(0, 2)", x.known(0, 2), 15);
        due.is("make(0)", x.make(0), BallCourt.STATE);
        x = new BallCourt();
        due.is("told(2), of another object", x.told(2), 0);
        due.is("law(15, 1), of another object", x.law(15, 1), 0);
    }

    private static void factsAnewButGoal() {
        due.sentence(2, "FACTS anew (nothing BARRED, no LINES, MOMENTS, CASES; GOAL stays)");
        for (int n = 1; n <= 7; n++) {
            BallCourt x = Courts.some();
            due.is("facts(" + n + ")", x.facts(n), 3);
            BallCourt y = new BallCourt();
            y.facts(n);
            y.goal(7);
            due.isTrue("all as on a new object with goal 7", Courts.seen(x).equals(Courts.seen(y)));
        }
        BallCourt x = Courts.full();
        due.is("facts(1), as many as there were", x.facts(1), 1);
        BallCourt y = new BallCourt();
        y.facts(1);
        y.goal(20);
        due.isTrue("all as on a new object with goal 20", Courts.seen(x).equals(Courts.seen(y)));
    }

    private static void openByNumbers() {
        due.sentence(10, "how many (i = -1), the i-th by numbers; NONE (i below -1, too)");
        BallCourt x = new BallCourt();
        x.facts(7);
        due.is("open(-1), all 128", x.open(-1), 128);
        due.is("open(127), the last", x.open(127), 127);
        due.is("open(128)", x.open(128), NONE);
        x.line(0, 1, 0);
        due.is("open(-1)", x.open(-1), 64);
        due.is("open(0)", x.open(0), 1);
        due.is("open(63), the last", x.open(63), 127);
        due.is("open(64)", x.open(64), NONE);
        x.barred(0, 6, true);
        due.is("open(-1), none that is barred", x.open(-1), 32);
        due.is("open(31), the last", x.open(31), 63);
        due.is("open(32)", x.open(32), NONE);
        x.line(1, 0, 0);
        due.is("open(-1), all covered", x.open(-1), 0);
        due.is("open(0), all covered", x.open(0), NONE);
        due.is("open(-2), all covered", x.open(-2), NONE);
        due.is("open of the least number", x.open(Integer.MIN_VALUE), NONE);
    }

    private static void idleAlsoIfTakenBack() {
        due.sentence(11, "repealing it (or taking that back) would change no KIND's RULING, nor whether it is COVERED");
        BallCourt x = new BallCourt();
        x.line(15, 0, 0);
        due.is("idle(0), one kind would be not covered", x.idle(0), 0);
        x.repeal(0, true);
        due.is("idle(0), one kind would be covered", x.idle(0), 0);
        x.repeal(0, false);
        x.line(15, 0, 0);
        due.is("idle(0), another line with the same ruling", x.idle(0), 1);
        due.is("idle(1), behind it", x.idle(1), 1);
        x.repeal(0, true);
        due.is("idle(0), taking that back", x.idle(0), 1);
        due.is("idle(1), now the only one", x.idle(1), 0);
        x.repeal(0, false);
        x.line(15, 0, 3);
        x.except(2, 0);
        due.is("idle(0), excepted from", x.idle(0), 1);
        due.is("idle(2), line 1 stands in", x.idle(2), 1);
        x.repeal(1, true);
        due.is("idle(2), nothing stands in", x.idle(2), 0);
        due.is("idle(0), excepted from", x.idle(0), 1);
    }

    private static void turnedAsBits() {
        due.sentence(21, "CASES whose RULING is not THE LAW's for their KIND as it is now, as bits");
        BallCourt x = new BallCourt();
        due.is("turned(), no cases", x.turned(), 0);
        Courts.momentOf(x, 0);
        Courts.momentOf(x, 15);
        for (int k = 0; k < 12; k++) {
            x.make(k == 0 || k == 11 ? 1 : 0);
        }
        due.is("turned(), none", x.turned(), 0);
        x.line(15, 0, 1);
        due.is("turned(), the first and the last", x.turned(), 0x801);
        x.line(0, 0, 2);
        due.is("turned(), all", x.turned(), 0xfff);
        x.repeal(0, true);
        x.repeal(1, true);
        due.is("turned(), none any more", x.turned(), 0);
    }

    private static void mendOfNoneAndOfAll() {
        due.sentence(22, "KINDS (0), CASES (1), MOMENTS (2): how many");
        BallCourt x = new BallCourt();
        x.facts(7);
        x.line(0, 0, 1);
        due.is("mend(0, 0), all kinds", x.mend(0, 0), 128);
        due.is("mend(0, 1), no cases", x.mend(0, 1), 0);
        due.is("mend(0, 2), no moments", x.mend(0, 2), 0);
        for (int m = 0; m < 30; m++) {
            x.moment();
        }
        due.is("mend(0, 2), all moments", x.mend(0, 2), 30);
        x.line(0, 0, 1);
        for (int what = 0; what < 3; what++) {
            due.is("mend(0, " + what + "), the same by line 1", x.mend(0, what), 0);
            due.is("mend(1, " + what + "), never the first", x.mend(1, what), 0);
        }
        x.facts(1);
        x.line(1, 0, 0);
        Courts.momentOf(x, 1);
        for (int k = 0; k < 12; k++) {
            x.make(0);
        }
        due.is("mend(0, 0), covered or not", x.mend(0, 0), 1);
        due.is("mend(0, 1), all cases", x.mend(0, 1), 12);
        due.is("mend(0, 2), play on both ways", x.mend(0, 2), 0);
        x.repeal(0, true);
        due.is("mend(0, 0), if it came back", x.mend(0, 0), 1);
        due.is("mend(0, 1), if it came back", x.mend(0, 1), 12);
        due.is("about(0, 3), nothing is mended", x.about(0, 3), 1);
    }

    private static void scoreOfNoneToAll() {
        due.sentence(24, "Behind so many MOMENTS (0 to all)");
        BallCourt x = new BallCourt();
        for (int m = 0; m <= 30; m++) {
            due.is("score(" + (m + 1) + ", 2) of " + m, x.score(m + 1, 2), OUTSIDE);
            due.is("score(" + m + ", 2) of " + m, x.score(m, 2), m % 2);
            due.is("score(0, 2) of " + m, x.score(0, 2), 0);
            if (m < 30) {
                x.rule(x.moment(), 2);
            }
        }
        due.is("score(-1, 2)", x.score(-1, 2), OUTSIDE);
    }

    private static void appealToTheFirstOrNone() {
        due.sentence(25, "The first MOMENT behind which .. would be other, if a MOMENT were ruled so; NONE");
        for (int ruled = 0; ruled <= 4; ruled++) {
            BallCourt x = Courts.ruled(20, ruled, ruled, ruled);
            for (int m = 0; m < 3; m++) {
                for (int ruling = 0; ruling <= 4; ruling++) {
                    boolean same = ruling == ruled || ruling % 4 == 0 && ruled % 4 == 0;
                    due.is("appeal(" + m + ", " + ruling + ") from " + ruled, x.appeal(m, ruling), same ? NONE : m);
                }
                due.is("verdict(" + m + "), none was ruled so", x.verdict(m), ruled);
            }
        }
        BallCourt x = new BallCourt();
        x.moment();
        due.is("appeal(0, 0), the only one, as it is", x.appeal(0, 0), NONE);
        due.is("appeal(0, 1), the only one", x.appeal(0, 1), 0);
        due.is("appeal(1, 1)", x.appeal(1, 1), UNKNOWN);
    }

    private static void coveredOfAllKinds() {
        due.sentence(26, "6 those of all KINDS that are COVERED");
        BallCourt x = new BallCourt();
        x.facts(7);
        due.is("told(6), none", x.told(6), 0);
        x.line(127, 0, 0);
        due.is("told(6), one", x.told(6), 1);
        x.line(0, 1, 0);
        due.is("told(6), half and one", x.told(6), 65);
        x.line(0, 0, 0);
        due.is("told(6), all", x.told(6), 128);
        x.barred(0, 1, true);
        due.is("told(6), all that are left", x.told(6), 96);
        due.is("told(1), all that are left", x.told(1), 96);
        x.repeal(2, true);
        due.is("told(6)", x.told(6), 64);
    }
}
