/**
 * A court for a game of ball and hoops: the book of laws, the moments and the
 * witnesses who tell of them, the cases, and the score that follows from all.
 * What is refused answers one of the constants below and changes nothing.
 */
public final class BallCourt {
    public static final int NONE = -6, UNKNOWN = -1, OUTSIDE = -2, STATE = -3, FULL = -4, NO = -5;

    private static final int PLAY_ON = 0, HOOP = 1, TURN_PASSES = 2, FAULT = 3, LAST_RULING = 4;
    private static final int NOT_RULED = -1;
    private static final int NOT_SO = 0, SO = 1, NOTHING = 2;
    private static final int MOST_FACTS = 7, MOST_KINDS = 128, MOST_LINES = 12;
    private static final int MOST_MOMENTS = 30, MOST_CASES = 12, WITNESSES = 3;
    private static final int FACTS_AT_FIRST = 4, GOAL_AT_FIRST = 5, MOST_GOAL = 20;

    private final Book book = new Book();
    private final Laws laws = new Laws(book);
    // Rows for the question "what if a line were mended", kept so that no call makes new ones.
    private final Laws lawsIfMended = new Laws(book);
    private final Moments played = new Moments();
    private final Cases cases = new Cases();
    private final Game game = new Game();
    private final Game gameIfRuled = new Game();
    private int hoopsToWin = GOAL_AT_FIRST;

    public BallCourt() {
        beginAnew(FACTS_AT_FIRST);
    }

    private void beginAnew(int facts) {
        book.begin(facts);
        played.count = 0;
        cases.count = 0;
        laws.work(book.repealed);
    }

    // ---- 1 the book

    public int facts(int n) {
        if (n < 1 || n > MOST_FACTS) {
            return OUTSIDE;
        }
        int before = book.facts;
        beginAnew(n);
        return before;
    }

    public int barred(int a, int b, boolean is) {
        if (!book.hasFact(a) || !book.hasFact(b) || a == b) {
            return UNKNOWN;
        }
        boolean before = book.areBarred(a, b);
        book.bar(a, b, is);
        return oneIf(before);
    }

    public int line(int must, int mustNot, int ruling) {
        if (!book.areFacts(must) || !book.areFacts(mustNot) || (must & mustNot) != 0 || !isRuling(ruling)) {
            return OUTSIDE;
        }
        if (book.lines >= MOST_LINES) {
            return FULL;
        }
        int number = book.addLine(must, mustNot, ruling);
        laws.work(book.repealed);
        return number;
    }

    public int except(int j, int i) {
        if (!book.hasLine(j) || !book.hasLine(i)) {
            return UNKNOWN;
        }
        if (j <= i || book.excepts(j, i)) {
            return NO;
        }
        book.addException(j, i);
        laws.work(book.repealed);
        return Integer.bitCount(book.excepters[i]);
    }

    public int repeal(int line, boolean is) {
        if (!book.hasLine(line)) {
            return UNKNOWN;
        }
        boolean before = book.isRepealed(line);
        if (before != is) {
            book.repealed = book.repealedIfMended(line);
            laws.work(book.repealed);
        }
        return oneIf(before);
    }

    public int about(int line, int what) {
        if (!book.hasLine(line)) {
            return UNKNOWN;
        }
        switch (what) {
            case 0:
                return book.must[line];
            case 1:
                return book.mustNot[line];
            case 2:
                return book.ruling[line];
            case 3:
                return oneIf(book.isRepealed(line));
            case 4:
                return book.excepters[line];
            case 5:
                return book.namedBy(line);
            default:
                return OUTSIDE;
        }
    }

    public int holds(int line, int kind) {
        if (!book.hasLine(line)) {
            return UNKNOWN;
        }
        if (!book.hasKind(kind)) {
            return OUTSIDE;
        }
        return oneIf(hasBit(book.holding(kind, book.repealed), line));
    }

    public int law(int kind, int what) {
        if (!book.hasKind(kind) || what < 0 || what > 1) {
            return OUTSIDE;
        }
        return what == 0 ? laws.lineOf[kind] : laws.rulingFor(kind);
    }

    public int open(int i) {
        int seen = 0;
        for (int kind = 0; kind < book.numbers; kind++) {
            if (book.hasKind(kind) && !laws.covers(kind)) {
                if (seen == i) {
                    return kind;
                }
                seen++;
            }
        }
        return i == -1 ? seen : NONE;
    }

    public int idle(int line) {
        if (!book.hasLine(line)) {
            return UNKNOWN;
        }
        lawsIfMended.work(book.repealedIfMended(line));
        return oneIf(turnedKinds() == 0);
    }

    // ---- 2 moments, cases

    public int moment() {
        if (played.count >= MOST_MOMENTS) {
            return FULL;
        }
        return played.add();
    }

    public int tell(int moment, int witness, int fact, int v) {
        if (!played.has(moment) || !book.hasFact(fact)) {
            return UNKNOWN;
        }
        if (witness < 0 || witness >= WITNESSES || v < NOT_SO || v > NOTHING) {
            return OUTSIDE;
        }
        return played.hear(moment, witness, fact, v);
    }

    public int known(int moment, int what) {
        if (!played.has(moment)) {
            return UNKNOWN;
        }
        int so = played.knownSo(moment);
        int notSo = played.knownNotSo(moment);
        switch (what) {
            case 0:
                return so;
            case 1:
                return notSo;
            case 2:
                return book.allFacts() & ~(so | notSo);
            case 3:
                return book.countMayBe(so, notSo);
            default:
                return OUTSIDE;
        }
    }

    public int proof(int moment, int ruling) {
        if (!played.has(moment)) {
            return UNKNOWN;
        }
        if (!isRuling(ruling)) {
            return OUTSIDE;
        }
        int so = played.knownSo(moment);
        int notSo = played.knownNotSo(moment);
        int with = laws.countMayBeRuled(so, notSo, ruling);
        if (with == 0) {
            return 0;
        }
        return with == book.countMayBe(so, notSo) ? 2 : 1;
    }

    public int binds(int moment) {
        if (!played.has(moment)) {
            return UNKNOWN;
        }
        return cases.firstThatBinds(played.knownSo(moment), played.knownNotSo(moment));
    }

    public int verdict(int moment) {
        if (!played.has(moment)) {
            return UNKNOWN;
        }
        return verdictUnder(laws, moment);
    }

    public int rule(int moment, int ruling) {
        if (!played.has(moment)) {
            return UNKNOWN;
        }
        if (ruling != NOT_RULED && !isRuling(ruling)) {
            return OUTSIDE;
        }
        int before = verdictUnder(laws, moment);
        played.ruled[moment] = ruling;
        return before;
    }

    public int make(int moment) {
        if (!played.has(moment)) {
            return UNKNOWN;
        }
        int so = played.knownSo(moment);
        int notSo = played.knownNotSo(moment);
        if ((so | notSo) != book.allFacts() || !book.hasKind(so)) {
            return STATE;
        }
        if (cases.count >= MOST_CASES) {
            return FULL;
        }
        int names = laws.covers(so) ? book.namedBy(laws.lineOf[so]) : book.allFacts();
        return cases.add(so, verdictUnder(laws, moment), names);
    }

    public int ofCase(int k, int what) {
        if (!cases.has(k)) {
            return UNKNOWN;
        }
        switch (what) {
            case 0:
                return cases.kind[k];
            case 1:
                return cases.ruling[k];
            case 2:
                return cases.names[k];
            default:
                return OUTSIDE;
        }
    }

    public int turned() {
        int bits = 0;
        for (int k = 0; k < cases.count; k++) {
            if (cases.ruling[k] != laws.rulingFor(cases.kind[k])) {
                bits |= 1 << k;
            }
        }
        return bits;
    }

    public int mend(int line, int what) {
        if (!book.hasLine(line)) {
            return UNKNOWN;
        }
        if (what < 0 || what > 2) {
            return OUTSIDE;
        }
        lawsIfMended.work(book.repealedIfMended(line));
        if (what == 0) {
            return turnedKinds();
        }
        return what == 1 ? casesOfTurnedKinds() : turnedVerdicts();
    }

    // ---- 3 the game

    public int goal(int n) {
        if (n < 1 || n > MOST_GOAL) {
            return OUTSIDE;
        }
        int before = hoopsToWin;
        hoopsToWin = n;
        return before;
    }

    public int score(int moments, int what) {
        if (moments < 0 || moments > played.count || what < 0 || what > 3) {
            return OUTSIDE;
        }
        game.begin(hoopsToWin);
        for (int m = 0; m < moments; m++) {
            game.play(verdictUnder(laws, m));
        }
        switch (what) {
            case 0:
                return game.hoopsOf0;
            case 1:
                return game.hoopsOf1;
            case 2:
                return game.striker;
            default:
                return game.winner();
        }
    }

    public int appeal(int moment, int ruling) {
        if (!played.has(moment)) {
            return UNKNOWN;
        }
        if (!isRuling(ruling)) {
            return OUTSIDE;
        }
        game.begin(hoopsToWin);
        gameIfRuled.begin(hoopsToWin);
        for (int m = 0; m < played.count; m++) {
            int asItIs = verdictUnder(laws, m);
            game.play(asItIs);
            gameIfRuled.play(m == moment ? ruling : asItIs);
            if (!game.standsAs(gameIfRuled)) {
                return m;
            }
        }
        return NONE;
    }

    public int told(int what) {
        switch (what) {
            case 0:
                return book.facts;
            case 1:
                return book.countMayBe(0, 0);
            case 2:
                return book.lines;
            case 3:
                return played.count;
            case 4:
                return cases.count;
            case 5:
                return hoopsToWin;
            case 6:
                return coveredKinds();
            default:
                return OUTSIDE;
        }
    }

    // ---- what several calls need

    private static int oneIf(boolean is) {
        return is ? 1 : 0;
    }

    private static boolean hasBit(int bits, int number) {
        return ((bits >> number) & 1) != 0;
    }

    private static boolean isRuling(int ruling) {
        return ruling >= PLAY_ON && ruling <= LAST_RULING;
    }

    private int verdictUnder(Laws under, int moment) {
        if (played.ruled[moment] != NOT_RULED) {
            return played.ruled[moment];
        }
        int so = played.knownSo(moment);
        int notSo = played.knownNotSo(moment);
        if (book.countMayBe(so, notSo) == 0) {
            return PLAY_ON;
        }
        int binding = cases.firstThatBinds(so, notSo);
        if (binding != NONE) {
            return cases.ruling[binding];
        }
        return under.rulingForAll(so, notSo);
    }

    private int coveredKinds() {
        int covered = 0;
        for (int kind = 0; kind < book.numbers; kind++) {
            if (book.hasKind(kind) && laws.covers(kind)) {
                covered++;
            }
        }
        return covered;
    }

    private int turnedKinds() {
        int turned = 0;
        for (int kind = 0; kind < book.numbers; kind++) {
            if (book.hasKind(kind) && laws.differFor(kind, lawsIfMended)) {
                turned++;
            }
        }
        return turned;
    }

    private int casesOfTurnedKinds() {
        int turned = 0;
        // The kind of a case counts as one also when its facts are barred by now.
        for (int k = 0; k < cases.count; k++) {
            if (laws.differFor(cases.kind[k], lawsIfMended)) {
                turned++;
            }
        }
        return turned;
    }

    private int turnedVerdicts() {
        int turned = 0;
        for (int m = 0; m < played.count; m++) {
            if (verdictUnder(laws, m) != verdictUnder(lawsIfMended, m)) {
                turned++;
            }
        }
        return turned;
    }

    /** The facts, which of them are barred, and the lines. Sets of facts and of lines are bits. */
    private static final class Book {
        private int facts;
        // How many numbers a kind could bear; those with barred facts are none all the same.
        private int numbers;
        private final boolean[] isKind = new boolean[MOST_KINDS];
        private final int[] barredWith = new int[MOST_FACTS];
        private int lines;
        private int repealed;
        private int excepting;
        private final int[] must = new int[MOST_LINES];
        private final int[] mustNot = new int[MOST_LINES];
        private final int[] ruling = new int[MOST_LINES];
        private final int[] excepters = new int[MOST_LINES];

        void begin(int n) {
            facts = n;
            numbers = 1 << n;
            lines = 0;
            repealed = 0;
            excepting = 0;
            for (int fact = 0; fact < MOST_FACTS; fact++) {
                barredWith[fact] = 0;
            }
            workKinds();
        }

        boolean hasFact(int fact) {
            return fact >= 0 && fact < facts;
        }

        boolean areFacts(int bits) {
            return bits >= 0 && bits < numbers;
        }

        int allFacts() {
            return numbers - 1;
        }

        boolean hasKind(int kind) {
            return kind >= 0 && kind < numbers && isKind[kind];
        }

        boolean hasLine(int line) {
            return line >= 0 && line < lines;
        }

        boolean areBarred(int a, int b) {
            return hasBit(barredWith[a], b);
        }

        void bar(int a, int b, boolean is) {
            if (is) {
                barredWith[a] |= 1 << b;
                barredWith[b] |= 1 << a;
            } else {
                barredWith[a] &= ~(1 << b);
                barredWith[b] &= ~(1 << a);
            }
            workKinds();
        }

        private void workKinds() {
            for (int kind = 0; kind < numbers; kind++) {
                isKind[kind] = !hasBarredPair(kind);
            }
        }

        private boolean hasBarredPair(int kind) {
            for (int fact = 0; fact < facts; fact++) {
                if (hasBit(kind, fact) && (barredWith[fact] & kind) != 0) {
                    return true;
                }
            }
            return false;
        }

        boolean mayBe(int kind, int so, int notSo) {
            return isKind[kind] && (kind & so) == so && (kind & notSo) == 0;
        }

        int countMayBe(int so, int notSo) {
            int found = 0;
            for (int kind = 0; kind < numbers; kind++) {
                if (mayBe(kind, so, notSo)) {
                    found++;
                }
            }
            return found;
        }

        int addLine(int so, int notSo, int itsRuling) {
            int number = lines;
            must[number] = so;
            mustNot[number] = notSo;
            ruling[number] = itsRuling;
            excepters[number] = 0;
            lines++;
            return number;
        }

        boolean excepts(int j, int i) {
            return hasBit(excepters[i], j);
        }

        void addException(int j, int i) {
            excepters[i] |= 1 << j;
            excepting |= 1 << j;
        }

        boolean isRepealed(int line) {
            return hasBit(repealed, line);
        }

        int repealedIfMended(int line) {
            return repealed ^ (1 << line);
        }

        /** The lines that hold for a kind, if just these are repealed. */
        int holding(int kind, int ifRepealed) {
            int held = 0;
            // A line is excepted from by greater numbers alone, so these are worked first.
            for (int line = lines - 1; line >= 0; line--) {
                boolean fits = (kind & must[line]) == must[line] && (kind & mustNot[line]) == 0;
                if (fits && !hasBit(ifRepealed, line) && (excepters[line] & held) == 0) {
                    held |= 1 << line;
                }
            }
            return held;
        }

        int lawLine(int kind, int ifRepealed) {
            int giving = holding(kind, ifRepealed) & ~excepting;
            for (int line = 0; line < lines; line++) {
                if (hasBit(giving, line)) {
                    return line;
                }
            }
            return NONE;
        }

        int namedBy(int first) {
            int named = 0;
            int reached = 1 << first;
            // One way through is enough: each line is reached from lesser numbers alone.
            for (int line = first; line < lines; line++) {
                if (hasBit(reached, line)) {
                    named |= must[line] | mustNot[line];
                    reached |= excepters[line] & ~repealed;
                }
            }
            return named;
        }
    }

    /** The law for every number that a kind could bear, worked for one set of repealed lines. */
    private static final class Laws {
        private final Book book;
        private final int[] lineOf = new int[MOST_KINDS];

        Laws(Book itsBook) {
            book = itsBook;
        }

        void work(int ifRepealed) {
            for (int kind = 0; kind < book.numbers; kind++) {
                lineOf[kind] = book.lawLine(kind, ifRepealed);
            }
        }

        boolean covers(int kind) {
            return lineOf[kind] != NONE;
        }

        int rulingFor(int kind) {
            return covers(kind) ? book.ruling[lineOf[kind]] : PLAY_ON;
        }

        boolean differFor(int kind, Laws other) {
            return rulingFor(kind) != other.rulingFor(kind) || covers(kind) != other.covers(kind);
        }

        int countMayBeRuled(int so, int notSo, int ruling) {
            int found = 0;
            for (int kind = 0; kind < book.numbers; kind++) {
                if (book.mayBe(kind, so, notSo) && rulingFor(kind) == ruling) {
                    found++;
                }
            }
            return found;
        }

        /** The ruling that is the same for all that may be; play on, if there is none such. */
        int rulingForAll(int so, int notSo) {
            int same = NOT_RULED;
            for (int kind = 0; kind < book.numbers; kind++) {
                if (book.mayBe(kind, so, notSo)) {
                    int ruling = rulingFor(kind);
                    if (same != NOT_RULED && same != ruling) {
                        return PLAY_ON;
                    }
                    same = ruling;
                }
            }
            return same == NOT_RULED ? PLAY_ON : same;
        }
    }

    /** What the witnesses told of each moment, and what an umpire ruled on it. */
    private static final class Moments {
        private int count;
        // One entry for each witness of each moment: the facts that it told so, or not so.
        private final int[] toldSo = new int[MOST_MOMENTS * WITNESSES];
        private final int[] toldNotSo = new int[MOST_MOMENTS * WITNESSES];
        private final int[] ruled = new int[MOST_MOMENTS];

        boolean has(int moment) {
            return moment >= 0 && moment < count;
        }

        int add() {
            int number = count;
            for (int witness = 0; witness < WITNESSES; witness++) {
                toldSo[number * WITNESSES + witness] = 0;
                toldNotSo[number * WITNESSES + witness] = 0;
            }
            ruled[number] = NOT_RULED;
            count++;
            return number;
        }

        int hear(int moment, int witness, int fact, int v) {
            int row = moment * WITNESSES + witness;
            int before = NOTHING;
            if (hasBit(toldSo[row], fact)) {
                before = SO;
            } else if (hasBit(toldNotSo[row], fact)) {
                before = NOT_SO;
            }
            toldSo[row] &= ~(1 << fact);
            toldNotSo[row] &= ~(1 << fact);
            if (v == SO) {
                toldSo[row] |= 1 << fact;
            } else if (v == NOT_SO) {
                toldNotSo[row] |= 1 << fact;
            }
            return before;
        }

        int knownSo(int moment) {
            return ofAll(toldSo, moment) & ~ofAll(toldNotSo, moment);
        }

        int knownNotSo(int moment) {
            return ofAll(toldNotSo, moment) & ~ofAll(toldSo, moment);
        }

        private static int ofAll(int[] told, int moment) {
            int bits = 0;
            for (int witness = 0; witness < WITNESSES; witness++) {
                bits |= told[moment * WITNESSES + witness];
            }
            return bits;
        }
    }

    /** The old cases: what was so, what was ruled, and the facts that bind. */
    private static final class Cases {
        private int count;
        private final int[] kind = new int[MOST_CASES];
        private final int[] ruling = new int[MOST_CASES];
        private final int[] names = new int[MOST_CASES];

        boolean has(int k) {
            return k >= 0 && k < count;
        }

        int add(int itsKind, int itsRuling, int itsNames) {
            int number = count;
            kind[number] = itsKind;
            ruling[number] = itsRuling;
            names[number] = itsNames;
            count++;
            return number;
        }

        int firstThatBinds(int so, int notSo) {
            for (int k = 0; k < count; k++) {
                int namedSo = names[k] & kind[k];
                int namedNotSo = names[k] & ~kind[k];
                if ((so & namedSo) == namedSo && (notSo & namedNotSo) == namedNotSo) {
                    return k;
                }
            }
            return NONE;
        }
    }

    /** One game as it stands behind some moments. */
    private static final class Game {
        private int toWin;
        private int hoopsOf0;
        private int hoopsOf1;
        private int striker;

        void begin(int goal) {
            toWin = goal;
            hoopsOf0 = 0;
            hoopsOf1 = 0;
            striker = 0;
        }

        void play(int ruling) {
            if (winner() != NONE) {
                return;
            }
            if (ruling == HOOP) {
                giveHoop(striker);
            }
            if (ruling == FAULT) {
                giveHoop(1 - striker);
            }
            if (ruling == TURN_PASSES || ruling == FAULT) {
                striker = 1 - striker;
            }
        }

        private void giveHoop(int side) {
            if (side == 0) {
                hoopsOf0++;
            } else {
                hoopsOf1++;
            }
        }

        int winner() {
            if (hoopsOf0 >= toWin) {
                return 0;
            }
            return hoopsOf1 >= toWin ? 1 : NONE;
        }

        boolean standsAs(Game other) {
            return hoopsOf0 == other.hoopsOf0 && hoopsOf1 == other.hoopsOf1 && striker == other.striker
                && winner() == other.winner();
        }
    }
}
