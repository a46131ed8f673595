import java.util.ArrayList;
import java.util.List;
import java.util.Set;
import java.util.TreeSet;

/**
 * The document once more, word by word and as slow as it likes, with nothing
 * kept that can be worked out: what BallCourt answers is held against it.
 */
final class PlainCourt {
    static final int NONE = -6, UNKNOWN = -1, OUTSIDE = -2, STATE = -3, FULL = -4, NO = -5;

    private static final class Line {
        Set<Integer> must = new TreeSet<>(), mustNot = new TreeSet<>();
        List<Line> exceptedBy = new ArrayList<>();
        int number, ruling;
        boolean repealed;
    }

    private static final class Moment {
        Integer[][] told = new Integer[3][7];
        Integer umpire;
    }

    private static final class Case {
        int kind, ruling;
        Set<Integer> names = new TreeSet<>();
    }

    private int f = 4, goal = 5;
    private final Set<String> barredPairs = new TreeSet<>();
    private final List<Line> lines = new ArrayList<>();
    private final List<Moment> moments = new ArrayList<>();
    private final List<Case> cases = new ArrayList<>();

    // ---- the terms

    private boolean isFact(int k) {
        return 0 <= k && k < f;
    }

    private static boolean among(List<?> all, int n) {
        return 0 <= n && n < all.size();
    }

    private static boolean so(int kind, int fact) {
        return (kind / (1 << fact)) % 2 == 1;
    }

    private List<Integer> kinds() {
        List<Integer> all = new ArrayList<>();
        for (int kind = 0; kind < 1 << f; kind++) {
            boolean none = false;
            for (int a = 0; a < f; a++) {
                for (int b = 0; b < f; b++) {
                    none |= so(kind, a) && so(kind, b) && barredPairs.contains(a + "," + b);
                }
            }
            if (!none) {
                all.add(kind);
            }
        }
        return all;
    }

    private static int bits(Set<Integer> facts) {
        int sum = 0;
        for (int fact : facts) {
            sum += 1 << fact;
        }
        return sum;
    }

    private static boolean holdsFor(Line line, int kind) {
        if (line.repealed) {
            return false;
        }
        for (int fact : line.must) {
            if (!so(kind, fact)) {
                return false;
            }
        }
        for (int fact : line.mustNot) {
            if (so(kind, fact)) {
                return false;
            }
        }
        for (Line other : line.exceptedBy) {
            if (holdsFor(other, kind)) {
                return false;
            }
        }
        return true;
    }

    private boolean exceptsFromSome(Line line) {
        for (Line other : lines) {
            if (other.exceptedBy.contains(line)) {
                return true;
            }
        }
        return false;
    }

    private Line theLaw(int kind) {
        for (Line line : lines) {
            if (holdsFor(line, kind) && !exceptsFromSome(line)) {
                return line;
            }
        }
        return null;
    }

    private int lawsRuling(int kind) {
        Line line = theLaw(kind);
        return line == null ? 0 : line.ruling;
    }

    private static Set<Integer> named(Line line) {
        Set<Integer> all = new TreeSet<>(line.must);
        all.addAll(line.mustNot);
        for (Line other : line.exceptedBy) {
            if (!other.repealed) {
                all.addAll(named(other));
            }
        }
        return all;
    }

    /** 1 known so, 0 known not so, null in doubt. */
    private static Integer knownOf(Moment m, int fact) {
        Integer found = null;
        for (int w = 0; w < 3; w++) {
            Integer told = m.told[w][fact];
            if (told != null) {
                if (found != null && !found.equals(told)) {
                    return null;
                }
                found = told;
            }
        }
        return found;
    }

    private List<Integer> mayBe(Moment m) {
        List<Integer> all = new ArrayList<>();
        for (int kind : kinds()) {
            boolean agrees = true;
            for (int fact = 0; fact < f; fact++) {
                Integer known = knownOf(m, fact);
                agrees &= known == null || (known == 1) == so(kind, fact);
            }
            if (agrees) {
                all.add(kind);
            }
        }
        return all;
    }

    private int bindingCase(Moment m) {
        for (int k = 0; k < cases.size(); k++) {
            Case c = cases.get(k);
            boolean binding = true;
            for (int fact : c.names) {
                Integer known = knownOf(m, fact);
                binding &= known != null && (known == 1) == so(c.kind, fact);
            }
            if (binding) {
                return k;
            }
        }
        return NONE;
    }

    private int verdictOf(Moment m) {
        if (m.umpire != null) {
            return m.umpire;
        }
        if (mayBe(m).isEmpty()) {
            return 0;
        }
        int k = bindingCase(m);
        if (k != NONE) {
            return cases.get(k).ruling;
        }
        Set<Integer> rulings = new TreeSet<>();
        for (int kind : mayBe(m)) {
            rulings.add(lawsRuling(kind));
        }
        return rulings.size() == 1 ? rulings.iterator().next() : 0;
    }

    private List<Integer> verdicts() {
        List<Integer> all = new ArrayList<>();
        for (Moment m : moments) {
            all.add(verdictOf(m));
        }
        return all;
    }

    /** Hoops of 0, of 1, who strikes, who has won, behind so many of these verdicts. */
    private int[] gameBehind(List<Integer> verdicts, int so) {
        int[] g = {0, 0, 0, NONE};
        for (int v : verdicts.subList(0, so)) {
            if (g[3] != NONE) {
                return g;
            }
            int who = g[2], other = who == 0 ? 1 : 0;
            switch (v) {
                case 1:
                    g[who]++;
                    break;
                case 2:
                    g[2] = other;
                    break;
                case 3:
                    g[other]++;
                    g[2] = other;
                    break;
                default:
            }
            g[3] = g[0] == goal ? 0 : g[1] == goal ? 1 : NONE;
        }
        return g;
    }

    // ---- the calls

    int facts(int n) {
        if (n < 1 || n > 7) {
            return OUTSIDE;
        }
        int was = f;
        f = n;
        barredPairs.clear();
        lines.clear();
        moments.clear();
        cases.clear();
        return was;
    }

    int barred(int a, int b, boolean is) {
        if (!isFact(a) || !isFact(b) || a == b) {
            return UNKNOWN;
        }
        int was = barredPairs.contains(a + "," + b) ? 1 : 0;
        for (String pair : new String[] {a + "," + b, b + "," + a}) {
            if (is) {
                barredPairs.add(pair);
            } else {
                barredPairs.remove(pair);
            }
        }
        return was;
    }

    int line(int must, int mustNot, int ruling) {
        if (must < 0 || must >= 1 << f || mustNot < 0 || mustNot >= 1 << f || ruling < 0 || ruling > 4) {
            return OUTSIDE;
        }
        Line line = new Line();
        for (int fact = 0; fact < f; fact++) {
            if (so(must, fact) && so(mustNot, fact)) {
                return OUTSIDE;
            }
            if (so(must, fact)) {
                line.must.add(fact);
            }
            if (so(mustNot, fact)) {
                line.mustNot.add(fact);
            }
        }
        if (lines.size() == 12) {
            return FULL;
        }
        line.ruling = ruling;
        line.number = lines.size();
        lines.add(line);
        return line.number;
    }

    int except(int j, int i) {
        if (!among(lines, j) || !among(lines, i)) {
            return UNKNOWN;
        }
        if (j <= i || lines.get(i).exceptedBy.contains(lines.get(j))) {
            return NO;
        }
        lines.get(i).exceptedBy.add(lines.get(j));
        return lines.get(i).exceptedBy.size();
    }

    int repeal(int line, boolean is) {
        if (!among(lines, line)) {
            return UNKNOWN;
        }
        int was = lines.get(line).repealed ? 1 : 0;
        lines.get(line).repealed = is;
        return was;
    }

    int about(int line, int what) {
        if (!among(lines, line)) {
            return UNKNOWN;
        }
        Line l = lines.get(line);
        Set<Integer> excepting = new TreeSet<>();
        for (Line other : l.exceptedBy) {
            excepting.add(other.number);
        }
        return switch (what) {
            case 0 -> bits(l.must);
            case 1 -> bits(l.mustNot);
            case 2 -> l.ruling;
            case 3 -> l.repealed ? 1 : 0;
            case 4 -> bits(excepting);
            case 5 -> bits(named(l));
            default -> OUTSIDE;
        };
    }

    int holds(int line, int kind) {
        if (!among(lines, line)) {
            return UNKNOWN;
        }
        if (!kinds().contains(kind)) {
            return OUTSIDE;
        }
        return holdsFor(lines.get(line), kind) ? 1 : 0;
    }

    int law(int kind, int what) {
        if (!kinds().contains(kind) || what != 0 && what != 1) {
            return OUTSIDE;
        }
        if (what == 1) {
            return lawsRuling(kind);
        }
        return theLaw(kind) == null ? NONE : theLaw(kind).number;
    }

    int open(int i) {
        List<Integer> uncovered = new ArrayList<>();
        for (int kind : kinds()) {
            if (theLaw(kind) == null) {
                uncovered.add(kind);
            }
        }
        return i == -1 ? uncovered.size() : among(uncovered, i) ? uncovered.get(i) : NONE;
    }

    int idle(int line) {
        int turns = mend(line, 0);
        return turns < 0 ? turns : turns == 0 ? 1 : 0;
    }

    int moment() {
        if (moments.size() == 30) {
            return FULL;
        }
        moments.add(new Moment());
        return moments.size() - 1;
    }

    int tell(int moment, int witness, int fact, int v) {
        if (!among(moments, moment) || !isFact(fact)) {
            return UNKNOWN;
        }
        if (witness < 0 || witness > 2 || v < 0 || v > 2) {
            return OUTSIDE;
        }
        Integer[] told = moments.get(moment).told[witness];
        int was = told[fact] == null ? 2 : told[fact];
        told[fact] = v == 2 ? null : Integer.valueOf(v);
        return was;
    }

    int known(int moment, int what) {
        if (!among(moments, moment)) {
            return UNKNOWN;
        }
        Moment m = moments.get(moment);
        if (what == 3) {
            return mayBe(m).size();
        }
        Set<Integer> found = new TreeSet<>();
        for (int fact = 0; fact < f; fact++) {
            Integer known = knownOf(m, fact);
            if (what == 2 ? known == null : known != null && known == 1 - what) {
                found.add(fact);
            }
        }
        return what < 0 || what > 2 ? OUTSIDE : bits(found);
    }

    int proof(int moment, int ruling) {
        if (!among(moments, moment)) {
            return UNKNOWN;
        }
        if (ruling < 0 || ruling > 4) {
            return OUTSIDE;
        }
        boolean some = false, all = true;
        for (int kind : mayBe(moments.get(moment))) {
            some |= lawsRuling(kind) == ruling;
            all &= lawsRuling(kind) == ruling;
        }
        return !some ? 0 : all ? 2 : 1;
    }

    int binds(int moment) {
        return among(moments, moment) ? bindingCase(moments.get(moment)) : UNKNOWN;
    }

    int verdict(int moment) {
        return among(moments, moment) ? verdictOf(moments.get(moment)) : UNKNOWN;
    }

    int rule(int moment, int ruling) {
        if (!among(moments, moment)) {
            return UNKNOWN;
        }
        if (ruling < -1 || ruling > 4) {
            return OUTSIDE;
        }
        int was = verdictOf(moments.get(moment));
        moments.get(moment).umpire = ruling == -1 ? null : Integer.valueOf(ruling);
        return was;
    }

    int make(int moment) {
        if (!among(moments, moment)) {
            return UNKNOWN;
        }
        Moment m = moments.get(moment);
        Case c = new Case();
        for (int fact = 0; fact < f; fact++) {
            Integer known = knownOf(m, fact);
            if (known == null) {
                return STATE;
            }
            c.kind += known << fact;
            c.names.add(fact);
        }
        if (mayBe(m).isEmpty()) {
            return STATE;
        }
        if (cases.size() == 12) {
            return FULL;
        }
        if (theLaw(c.kind) != null) {
            c.names = named(theLaw(c.kind));
        }
        c.ruling = verdictOf(m);
        cases.add(c);
        return cases.size() - 1;
    }

    int ofCase(int k, int what) {
        if (!among(cases, k)) {
            return UNKNOWN;
        }
        Case c = cases.get(k);
        return what == 0 ? c.kind : what == 1 ? c.ruling : what == 2 ? bits(c.names) : OUTSIDE;
    }

    int turned() {
        Set<Integer> found = new TreeSet<>();
        for (int k = 0; k < cases.size(); k++) {
            if (cases.get(k).ruling != lawsRuling(cases.get(k).kind)) {
                found.add(k);
            }
        }
        return bits(found);
    }

    /** The law for each of these kinds, as text: its ruling and whether the kind is covered. */
    private List<String> lawOfAll(List<Integer> some) {
        List<String> all = new ArrayList<>();
        for (int kind : some) {
            all.add(lawsRuling(kind) + (theLaw(kind) == null ? " open" : " covered"));
        }
        return all;
    }

    private static int others(List<?> a, List<?> b) {
        int n = 0;
        for (int i = 0; i < a.size(); i++) {
            n += a.get(i).equals(b.get(i)) ? 0 : 1;
        }
        return n;
    }

    int mend(int line, int what) {
        if (!among(lines, line)) {
            return UNKNOWN;
        }
        List<Integer> ofCases = new ArrayList<>();
        for (Case c : cases) {
            ofCases.add(c.kind);
        }
        List<Integer> asked = what == 1 ? ofCases : kinds();
        Line l = lines.get(line);
        List<String> lawNow = lawOfAll(asked);
        List<Integer> verdictsNow = verdicts();
        l.repealed = !l.repealed;
        List<String> lawThen = lawOfAll(asked);
        List<Integer> verdictsThen = verdicts();
        l.repealed = !l.repealed;
        return what == 0 || what == 1 ? others(lawNow, lawThen) : what == 2 ? others(verdictsNow, verdictsThen) : OUTSIDE;
    }

    int goal(int n) {
        if (n < 1 || n > 20) {
            return OUTSIDE;
        }
        int was = goal;
        goal = n;
        return was;
    }

    int score(int behind, int what) {
        if (behind < 0 || behind > moments.size() || what < 0 || what > 3) {
            return OUTSIDE;
        }
        return gameBehind(verdicts(), behind)[what];
    }

    int appeal(int moment, int ruling) {
        if (!among(moments, moment)) {
            return UNKNOWN;
        }
        if (ruling < 0 || ruling > 4) {
            return OUTSIDE;
        }
        List<Integer> asItIs = verdicts();
        List<Integer> appealed = verdicts();
        appealed.set(moment, ruling);
        for (int m = 0; m < moments.size(); m++) {
            int[] a = gameBehind(asItIs, m + 1), b = gameBehind(appealed, m + 1);
            if (a[0] != b[0] || a[1] != b[1] || a[2] != b[2] || a[3] != b[3]) {
                return m;
            }
        }
        return NONE;
    }

    private int covered() {
        int covered = 0;
        for (int kind : kinds()) {
            covered += theLaw(kind) == null ? 0 : 1;
        }
        return covered;
    }

    int told(int what) {
        return switch (what) {
            case 0 -> f;
            case 1 -> kinds().size();
            case 2 -> lines.size();
            case 3 -> moments.size();
            case 4 -> cases.size();
            case 5 -> goal;
            case 6 -> covered();
            default -> OUTSIDE;
        };
    }
}
