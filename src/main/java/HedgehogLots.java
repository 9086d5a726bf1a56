import java.util.Arrays;

/**
 * Lots by hedgehog: a slope with pegs, rags and slugs, hedgehogs that are let go from it, and the suits
 * that are put to them. What each call does is told by the numbered promises of ../shared/DOC.md.
 */
public final class HedgehogLots {
    public static final int BAD = -1, STATE = -2, FULL = -3, NONE = -4;

    private static final int ROWS = 10, COLUMNS = 8, RAGS = 4, KINDS = 4, FASTEST = 9;
    private static final int MOST_PEGS = 7, MOST_SLUGS = 4, MOST_HEDGEHOGS = 4, MOST_SUITS = 6, MOST_SEEN = 6;
    private static final int TAPE_BYTES = 160, IMAGES = 2, SHEETS = 4, LANES = 3, SHEET_CELLS = 40;
    private static final int PLAIN = 0, FAT = 1, YOUNG = 2, BOAR = 3;
    private static final int NOWHERE = 9;
    private static final int NO_FAULT = 0, NULL_FAULT = 1, INDEX_FAULT = 2, CAST_FAULT = 3;
    private static final int SIZE_ANSWER = -14;

    private final Slope slope;
    private final Court court;
    private final Slope trial;
    private final Court trialCourt;
    private final Advice advice;
    private final Odds odds;
    private final Seen seen;
    private final Slope[] images;
    private final boolean[] kept;
    private final Tape tape;
    private final Reader reader;
    private int latestFault;
    private final Sheet[] sheets;
    private int latestTear;

    public HedgehogLots() {
        slope = new Slope();
        court = new Court(slope);
        trial = new Slope();
        trialCourt = new Court(trial);
        advice = new Advice(trialCourt);
        odds = new Odds();
        seen = new Seen();
        images = new Slope[IMAGES];
        kept = new boolean[IMAGES];
        for (int k = 0; k < IMAGES; k++) {
            images[k] = new Slope();
        }
        tape = new Tape();
        reader = new Reader(tape);
        latestFault = NO_FAULT;
        sheets = new Sheet[SHEETS];
        for (int k = 0; k < SHEETS; k++) {
            sheets[k] = new Sheet();
        }
        latestTear = NO_FAULT;
    }

    // ---- the text, what there is

    public int feed(int c) {
        if (c < 0 || c > 127) {
            return BAD;
        }
        return tape.add(c);
    }

    public int end(int n) {
        if (n < 0 || n > tape.length) {
            return BAD;
        }
        int before = tape.length;
        tape.length = n;
        return before;
    }

    public int text() {
        int answer = reader.readAll();
        tape.length = 0;
        latestFault = reader.trouble;
        if (latestFault == NO_FAULT) {
            slope.copyFrom(reader.draft);
            seen.size = 0;
            for (int k = 0; k < IMAGES; k++) {
                kept[k] = false;
            }
        }
        return answer;
    }

    public int fault() {
        return latestFault;
    }

    public int rule(int what) {
        switch (what) {
            case 0: return slope.pegs;
            case 1: return slope.slugs;
            case 2: return slope.hedgehogs;
            case 3: return slope.suits;
            case 4: return court.decided();
            case 5: return court.opened();
            default: return BAD;
        }
    }

    public int peg(int i, int what) {
        if (!slope.isPeg(i)) {
            return BAD;
        }
        switch (what) {
            case 0: return slope.pegCell[i];
            case 1: return slope.pegRag[i];
            case 2: return court.restedOn(i);
            default: return BAD;
        }
    }

    public int slug(int i) {
        return slope.isSlug(i) ? slope.slugCell[i] : BAD;
    }

    public int hedgehog(int h, int what) {
        if (!slope.isHedgehog(h)) {
            return BAD;
        }
        switch (what) {
            case 0: return slope.kind[h];
            case 1: return slope.speed[h];
            case 2: return Course.loss(slope.kind[h]);
            case 3: return court.restingColumns(h);
            default: return BAD;
        }
    }

    public int suit(int i, int what) {
        if (!slope.isSuit(i)) {
            return BAD;
        }
        switch (what) {
            case 0: return slope.suitHedgehog[i];
            case 1: return slope.suitColumn[i];
            case 2: return court.letGoInSuit(i).winner;
            default: return BAD;
        }
    }

    // ---- what is changed

    public int shift(int i, int c) {
        if (!slope.isPeg(i) || !Slope.isCell(c)) {
            return BAD;
        }
        int before = slope.pegCell[i];
        if (c != before && !slope.isFree(c)) {
            return STATE;
        }
        slope.movePeg(i, c);
        return before;
    }

    public int rag(int i, int k) {
        if (!slope.isPeg(i) || !isRag(k)) {
            return BAD;
        }
        int before = slope.pegRag[i];
        slope.pegRag[i] = k;
        return before;
    }

    public int alter(int h, int what, int v) {
        if (!slope.isHedgehog(h)) {
            return BAD;
        }
        if (what == 0 && v >= 0 && v < KINDS) {
            int before = slope.kind[h];
            slope.kind[h] = v;
            return before;
        }
        if (what == 1 && v >= 1 && v <= FASTEST) {
            int before = slope.speed[h];
            slope.speed[h] = v;
            return before;
        }
        return BAD;
    }

    public int drive(int c, int k) {
        return slope.addPeg(c, k);
    }

    public int lay(int c) {
        return slope.addSlug(c);
    }

    public int clear(int n) {
        if (n < 0 || n > slope.slugs) {
            return BAD;
        }
        int before = slope.slugs;
        slope.cutSlugs(n);
        return before;
    }

    public int sue(int h, int c) {
        if (!canLetGo(h, c)) {
            return BAD;
        }
        return slope.addSuit(h, c);
    }

    public int drop(int n) {
        if (n < 0 || n > slope.suits) {
            return BAD;
        }
        int before = slope.suits;
        slope.suits = n;
        return before;
    }

    // ---- runs

    public int run(int h, int c, int what) {
        if (!canLetGo(h, c)) {
            return BAD;
        }
        Course course = court.letGo(h, c);
        switch (what) {
            case 0: return course.rest;
            case 1: return course.winner;
            case 2: return course.endRow;
            case 3: return course.met;
            case 4: return course.opens ? 1 : 0;
            default: return BAD;
        }
    }

    public int way(int h, int c, int row) {
        if (!canLetGo(h, c) || row < 0 || row >= ROWS) {
            return BAD;
        }
        Course course = court.letGo(h, c);
        return row > course.endRow ? NONE : course.columnIn[row];
    }

    public int wins(int k) {
        return isRag(k) ? court.wonBy(k) : BAD;
    }

    public int share(int h, int k) {
        if (!slope.isHedgehog(h) || !isRag(k)) {
            return BAD;
        }
        return Integer.bitCount(court.winningColumns(h, k));
    }

    public int first(int h, int k) {
        if (!slope.isHedgehog(h) || !isRag(k)) {
            return BAD;
        }
        int columns = court.winningColumns(h, k);
        return columns == 0 ? NONE : Integer.numberOfTrailingZeros(columns);
    }

    public int kindly(int h, int c, int k) {
        if (!canLetGo(h, c) || !isRag(k)) {
            return BAD;
        }
        int bits = 0;
        for (int kind = 0; kind < KINDS; kind++) {
            if (court.letGoAs(kind, slope.speed[h], c).winner == k) {
                bits |= 1 << kind;
            }
        }
        return bits;
    }

    // ---- what is best

    public int place(int k, int what) {
        if (!isRag(k) || !isHalf(what)) {
            return BAD;
        }
        if (slope.pegs >= MOST_PEGS) {
            return FULL;
        }
        trial.copyFrom(slope);
        advice.seekNewPeg(k);
        return advice.told(what);
    }

    public int move(int i, int what) {
        if (!slope.isPeg(i) || !isHalf(what)) {
            return BAD;
        }
        trial.copyFrom(slope);
        advice.seekCellOf(i);
        return advice.told(what);
    }

    public int bribe(int k, int what) {
        if (!isRag(k) || !isHalf(what)) {
            return BAD;
        }
        if (slope.slugs >= MOST_SLUGS) {
            return FULL;
        }
        trial.copyFrom(slope);
        advice.seekNewSlug(k);
        return advice.told(what);
    }

    public int need(int h, int c) {
        if (!canLetGo(h, c)) {
            return BAD;
        }
        for (int speed = 1; speed <= FASTEST; speed++) {
            if (court.letGoAs(slope.kind[h], speed, c).endRow == ROWS) {
                return speed;
            }
        }
        return NONE;
    }

    public int swap(int k, int what) {
        if (!isRag(k) || !isHalf(what)) {
            return BAD;
        }
        trial.copyFrom(slope);
        advice.seekPair(k);
        return advice.told(what);
    }

    public int pull(int k, int what) {
        if (!isRag(k) || !isHalf(what)) {
            return BAD;
        }
        trial.copyFrom(slope);
        advice.seekNeedlessPeg(k);
        return advice.told(what);
    }

    // ---- turns the other way

    public long luck(int v, int h, int c, int k, int what) {
        if (!isOutOfTen(v) || !canLetGo(h, c) || !isRag(k) || !isHalf(what)) {
            return BAD;
        }
        odds.follow(slope, v, h, c, k);
        return lowestTerms(odds.won, what);
    }

    public long mean(int v, int h, int c, int what) {
        if (!isOutOfTen(v) || !canLetGo(h, c) || !isHalf(what)) {
            return BAD;
        }
        odds.follow(slope, v, h, c, 0);
        return lowestTerms(odds.met, what);
    }

    // ---- which it was

    public int see(int h, int c, int i) {
        boolean named = i >= 0 && i < MOST_PEGS || i == NOWHERE;
        if (!canLetGo(h, c) || !named) {
            return BAD;
        }
        return seen.add(h, c, i);
    }

    public int forget(int n) {
        if (n < 0 || n > seen.size) {
            return BAD;
        }
        int before = seen.size;
        seen.size = n;
        return before;
    }

    public int kinds(int h) {
        if (!slope.isHedgehog(h)) {
            return BAD;
        }
        trial.copyFrom(slope);
        return seen.fittingKinds(trialCourt, h);
    }

    public int speeds(int h) {
        if (!slope.isHedgehog(h)) {
            return BAD;
        }
        trial.copyFrom(slope);
        return seen.fittingSpeeds(trialCourt, h);
    }

    public int ask(int h, int what) {
        if (!slope.isHedgehog(h) || !isHalf(what)) {
            return BAD;
        }
        trial.copyFrom(slope);
        int possible = seen.fittingSpeeds(trialCourt, h);
        advice.seekQuestion(slope.kind[h], possible);
        return advice.told(what);
    }

    // ---- by a seed

    public int drift(int seed, int n, int what) {
        if (n < 1 || n > 60 || !isHalf(what)) {
            return BAD;
        }
        if (slope.hedgehogs == 0) {
            return STATE;
        }
        trial.copyFrom(slope);
        int state = seed;
        int rests = 0;
        int restsOnRagZero = 0;
        for (int i = 0; i < n; i++) {
            state = state * 1103515245 + 12345;
            int winner = driftOnce((state >>> 16) & 0x7fff);
            if (winner != NONE) {
                rests++;
            }
            if (winner == 0) {
                restsOnRagZero++;
            }
        }
        return what == 0 ? rests : restsOnRagZero;
    }

    /** One run on the trial slope by what was got of the seed: whose rag it rests on; NONE. */
    private int driftOnce(int got) {
        if (trial.hedgehogs <= 0) {
            return NONE;
        }
        Course course = trialCourt.letGo(got % trial.hedgehogs, got / 4 % COLUMNS);
        int cell = 10 * (got / 32 % ROWS) + got / 320 % COLUMNS;
        if (course.rest != NONE && trial.isFree(cell)) {
            trial.movePeg(course.rest, cell);
        }
        return course.winner;
    }

    // ---- images, sheets

    public int keep(int k) {
        if (!isImage(k)) {
            return BAD;
        }
        int before = kept[k] ? 1 : 0;
        images[k].copyFrom(slope);
        kept[k] = true;
        return before;
    }

    public int back(int k) {
        if (!isImage(k)) {
            return BAD;
        }
        if (!kept[k]) {
            return STATE;
        }
        slope.copyFrom(images[k]);
        return Integer.bitCount(court.decided());
    }

    public int sheet(int k, int lane, int n) {
        if (!isSheet(k) || !isLane(lane) || n > SHEET_CELLS) {
            return BAD;
        }
        if (n < 0) {
            return SIZE_ANSWER;
        }
        sheets[k].renew(lane, n);
        return 1;
    }

    public int write(int k, int i, int v) {
        if (!isSheet(k)) {
            return BAD;
        }
        Sheet row = sheets[k];
        int refusal = row.refusal(row.lane, i);
        if (refusal != NO_FAULT) {
            return -10 - refusal;
        }
        row.store(i, v);
        return 1;
    }

    public int read(int k, int lane, int f, int n) {
        if (!isSheet(k) || !isLane(lane) || n < 0 || n > 20) {
            return BAD;
        }
        Sheet row = sheets[k];
        int before = slope.pegs;
        int came = 0;
        int refusal = NO_FAULT;
        while (came < n && refusal == NO_FAULT) {
            refusal = row.refusalOfTwo(lane, f + 2 * came);
            if (refusal == NO_FAULT) {
                int cell = row.stored(f + 2 * came);
                int rag = row.stored(f + 2 * came + 1);
                if (slope.addPeg(cell, rag) < 0) {
                    slope.cutPegs(before);
                    return -20 - came;
                }
                came++;
            }
        }
        latestTear = refusal;
        return came;
    }

    public int torn() {
        return latestTear;
    }

    public int count(int what) {
        switch (what) {
            case 0: return seen.size;
            case 1: return keptImages();
            case 2: return tape.length;
            case 3: return sheets[0].lane == Sheet.NOTHING ? NONE : sheets[0].size;
            case 4: return slope.pegsOfRag(0);
            case 5: return slope.speedOfAll();
            default: return BAD;
        }
    }

    private int keptImages() {
        int number = 0;
        for (int k = 0; k < IMAGES; k++) {
            if (kept[k]) {
                number++;
            }
        }
        return number;
    }

    // ---- numbers that are as told

    private boolean canLetGo(int h, int c) {
        return slope.isHedgehog(h) && Slope.isColumn(c);
    }

    private static boolean isRag(int k) {
        return k >= 0 && k < RAGS;
    }

    private static boolean isHalf(int what) {
        return what == 0 || what == 1;
    }

    private static boolean isOutOfTen(int v) {
        return v >= 0 && v <= 10;
    }

    private static boolean isImage(int k) {
        return k >= 0 && k < IMAGES;
    }

    private static boolean isSheet(int k) {
        return k >= 0 && k < SHEETS;
    }

    private static boolean isLane(int lane) {
        return lane >= 0 && lane < LANES;
    }

    /** A part of Odds.WHOLE in lowest terms: what 0 its numerator, 1 its denominator. */
    private static long lowestTerms(long part, int what) {
        long common = Odds.WHOLE;
        long rest = part;
        // Euclid's steps on numbers below 2 to the 40 are fewer than 60.
        for (int i = 0; i < 100 && rest != 0; i++) {
            long next = common % rest;
            common = rest;
            rest = next;
        }
        if (common <= 0) {
            return BAD;
        }
        return what == 0 ? part / common : Odds.WHOLE / common;
    }

    /** What there is: pegs, slugs, hedgehogs and suits, each by order. */
    private static final class Slope {
        static final int FREE = -1, SLUG = -2;

        final int[] pegCell = new int[MOST_PEGS];
        final int[] pegRag = new int[MOST_PEGS];
        int pegs = 0;
        final int[] slugCell = new int[MOST_SLUGS];
        int slugs = 0;
        final int[] kind = new int[MOST_HEDGEHOGS];
        final int[] speed = new int[MOST_HEDGEHOGS];
        int hedgehogs = 0;
        final int[] suitHedgehog = new int[MOST_SUITS];
        final int[] suitColumn = new int[MOST_SUITS];
        int suits = 0;
        /** By cell: the number of the peg there, SLUG or FREE, so that a run need not search. */
        private final int[] ground = new int[10 * ROWS];

        Slope() {
            Arrays.fill(ground, FREE);
        }

        static boolean isColumn(int c) {
            return c >= 0 && c < COLUMNS;
        }

        static boolean isCell(int c) {
            return c >= 0 && c < 10 * ROWS && c % 10 < COLUMNS;
        }

        boolean isPeg(int i) {
            return i >= 0 && i < pegs;
        }

        boolean isSlug(int i) {
            return i >= 0 && i < slugs;
        }

        boolean isHedgehog(int h) {
            return h >= 0 && h < hedgehogs;
        }

        boolean isSuit(int i) {
            return i >= 0 && i < suits;
        }

        /** The number of the peg in a cell, SLUG or FREE. */
        int standingAt(int cell) {
            return cell >= 0 && cell < 10 * ROWS ? ground[cell] : FREE;
        }

        private void stand(int cell, int what) {
            if (cell >= 0 && cell < 10 * ROWS) {
                ground[cell] = what;
            }
        }

        boolean isFree(int cell) {
            return isCell(cell) && ground[cell] == FREE;
        }

        void empty() {
            pegs = 0;
            slugs = 0;
            hedgehogs = 0;
            suits = 0;
            Arrays.fill(ground, FREE);
        }

        void copyFrom(Slope other) {
            System.arraycopy(other.pegCell, 0, pegCell, 0, MOST_PEGS);
            System.arraycopy(other.pegRag, 0, pegRag, 0, MOST_PEGS);
            pegs = other.pegs;
            System.arraycopy(other.slugCell, 0, slugCell, 0, MOST_SLUGS);
            slugs = other.slugs;
            System.arraycopy(other.kind, 0, kind, 0, MOST_HEDGEHOGS);
            System.arraycopy(other.speed, 0, speed, 0, MOST_HEDGEHOGS);
            hedgehogs = other.hedgehogs;
            System.arraycopy(other.suitHedgehog, 0, suitHedgehog, 0, MOST_SUITS);
            System.arraycopy(other.suitColumn, 0, suitColumn, 0, MOST_SUITS);
            suits = other.suits;
            System.arraycopy(other.ground, 0, ground, 0, 10 * ROWS);
        }

        /** A peg more: how many there are; BAD, STATE, FULL. */
        int addPeg(int cell, int rag) {
            if (!isCell(cell) || !isRag(rag)) {
                return BAD;
            }
            if (!isFree(cell)) {
                return STATE;
            }
            if (pegs >= MOST_PEGS) {
                return FULL;
            }
            pegCell[pegs] = cell;
            pegRag[pegs] = rag;
            stand(cell, pegs);
            pegs++;
            return pegs;
        }

        void cutPegs(int n) {
            for (int i = Math.max(n, 0); i < pegs; i++) {
                stand(pegCell[i], FREE);
            }
            pegs = Math.max(0, Math.min(n, pegs));
        }

        /** A peg goes to a free cell, or stays in its own. */
        void movePeg(int i, int cell) {
            if (isPeg(i) && isCell(cell)) {
                stand(pegCell[i], FREE);
                pegCell[i] = cell;
                stand(cell, i);
            }
        }

        /** As if a peg were pulled out, but it keeps its number. */
        void hidePeg(int i) {
            if (isPeg(i)) {
                stand(pegCell[i], FREE);
            }
        }

        void showPeg(int i) {
            if (isPeg(i)) {
                stand(pegCell[i], i);
            }
        }

        /** A slug more: how many there are; BAD, STATE, FULL. */
        int addSlug(int cell) {
            if (!isCell(cell)) {
                return BAD;
            }
            if (!isFree(cell)) {
                return STATE;
            }
            if (slugs >= MOST_SLUGS) {
                return FULL;
            }
            slugCell[slugs] = cell;
            stand(cell, SLUG);
            slugs++;
            return slugs;
        }

        void cutSlugs(int n) {
            for (int i = Math.max(n, 0); i < slugs; i++) {
                stand(slugCell[i], FREE);
            }
            slugs = Math.max(0, Math.min(n, slugs));
        }

        /** A hedgehog more: how many there are; FULL. */
        int addHedgehog(int itsKind, int itsSpeed) {
            if (hedgehogs >= MOST_HEDGEHOGS) {
                return FULL;
            }
            kind[hedgehogs] = itsKind;
            speed[hedgehogs] = itsSpeed;
            hedgehogs++;
            return hedgehogs;
        }

        void exchangeHedgehogs(int a, int b) {
            if (isHedgehog(a) && isHedgehog(b)) {
                int kindOfA = kind[a];
                kind[a] = kind[b];
                kind[b] = kindOfA;
                int speedOfA = speed[a];
                speed[a] = speed[b];
                speed[b] = speedOfA;
            }
        }

        /** A suit more: how many there are; FULL. Its hedgehog may come later, as in a text. */
        int addSuit(int h, int column) {
            if (suits >= MOST_SUITS) {
                return FULL;
            }
            suitHedgehog[suits] = h;
            suitColumn[suits] = column;
            suits++;
            return suits;
        }

        int pegsOfRag(int k) {
            int number = 0;
            for (int i = 0; i < pegs; i++) {
                if (pegRag[i] == k) {
                    number++;
                }
            }
            return number;
        }

        int speedOfAll() {
            int sum = 0;
            for (int h = 0; h < hedgehogs; h++) {
                sum += speed[h];
            }
            return sum;
        }
    }

    /** One run: what came of it. */
    private static final class Course {
        int rest = NONE;
        int winner = NONE;
        int endRow = 0;
        int met = 0;
        boolean opens = false;
        final int[] columnIn = new int[ROWS];

        /** What a hedgehog of a kind loses of its speed by a peg. */
        static int loss(int kind) {
            switch (kind) {
                case FAT: return 3;
                case YOUNG: return 1;
                case BOAR: return 6;
                default: return 2;
            }
        }

        /** By how many columns a hedgehog of a kind turns in a row, below 0 to lesser ones. */
        static int turn(int kind, int row) {
            int plainTurn = row % 2 == 0 ? -1 : 1;
            switch (kind) {
                case FAT: return -plainTurn;
                case YOUNG: return 1;
                case BOAR: return -2 * plainTurn;
                default: return plainTurn;
            }
        }

        static int columnBeside(int column, int turn) {
            return Math.max(0, Math.min(COLUMNS - 1, column + turn));
        }

        /** As of a run that has met nothing yet. */
        void startAfresh() {
            rest = NONE;
            winner = NONE;
            endRow = 0;
            met = 0;
            opens = false;
        }

        void follow(Slope slope, int kind, int speed, int fromColumn) {
            startAfresh();
            int column = fromColumn;
            int left = speed;
            for (int row = 0; row < ROWS; row++) {
                endRow = row;
                columnIn[row] = column;
                int standing = slope.standingAt(10 * row + column);
                if (standing == Slope.SLUG) {
                    opens = true;
                    return;
                }
                if (slope.isPeg(standing)) {
                    met++;
                    left -= loss(kind);
                    if (left <= 0) {
                        rest = standing;
                        winner = slope.pegRag[standing];
                        return;
                    }
                    column = columnBeside(column, turn(kind, row));
                }
            }
            endRow = ROWS;
        }
    }

    /** What comes of runs and suits on one slope; bits tell suits or columns. */
    private static final class Court {
        final Slope slope;
        private final Course course = new Course();

        Court(Slope slope) {
            this.slope = slope;
        }

        /** The run of a hedgehog; each run is told by the same object, so that none is made by calls. */
        Course letGo(int h, int column) {
            course.startAfresh();
            if (slope.isHedgehog(h)) {
                course.follow(slope, slope.kind[h], slope.speed[h], column);
            }
            return course;
        }

        Course letGoAs(int kind, int speed, int column) {
            course.follow(slope, kind, speed, column);
            return course;
        }

        Course letGoInSuit(int i) {
            course.startAfresh();
            if (slope.isSuit(i) && slope.isHedgehog(slope.suitHedgehog[i])) {
                int h = slope.suitHedgehog[i];
                course.follow(slope, slope.kind[h], slope.speed[h], slope.suitColumn[i]);
            }
            return course;
        }

        int decided() {
            int bits = 0;
            for (int i = 0; i < slope.suits; i++) {
                if (letGoInSuit(i).winner != NONE) {
                    bits |= 1 << i;
                }
            }
            return bits;
        }

        int wonBy(int k) {
            int bits = 0;
            for (int i = 0; i < slope.suits; i++) {
                if (letGoInSuit(i).winner == k) {
                    bits |= 1 << i;
                }
            }
            return bits;
        }

        int wonByOthers(int k) {
            int bits = 0;
            for (int i = 0; i < slope.suits; i++) {
                int winner = letGoInSuit(i).winner;
                if (winner != NONE && winner != k) {
                    bits |= 1 << i;
                }
            }
            return bits;
        }

        int opened() {
            int bits = 0;
            for (int i = 0; i < slope.suits; i++) {
                if (letGoInSuit(i).opens) {
                    bits |= 1 << i;
                }
            }
            return bits;
        }

        int restedOn(int peg) {
            int bits = 0;
            for (int i = 0; i < slope.suits; i++) {
                if (letGoInSuit(i).rest == peg) {
                    bits |= 1 << i;
                }
            }
            return bits;
        }

        int restingColumns(int h) {
            int bits = 0;
            for (int c = 0; c < COLUMNS; c++) {
                if (letGo(h, c).rest != NONE) {
                    bits |= 1 << c;
                }
            }
            return bits;
        }

        int winningColumns(int h, int k) {
            int bits = 0;
            for (int c = 0; c < COLUMNS; c++) {
                if (letGo(h, c).winner == k) {
                    bits |= 1 << c;
                }
            }
            return bits;
        }
    }

    /** What is best, tried out on the slope of a court, which is put back as it was. */
    private static final class Advice {
        private final Court court;
        private final Slope slope;
        private int best = NONE;
        private int number = 0;
        private final int[] speedsByEnd = new int[MOST_PEGS + 1];

        Advice(Court court) {
            this.court = court;
            this.slope = court.slope;
        }

        /** What 0: the best, 1: how many by it; NONE. */
        int told(int what) {
            if (best == NONE) {
                return NONE;
            }
            return what == 0 ? best : number;
        }

        /** Only what passes the bound is best. */
        private void seekFrom(int bound) {
            best = NONE;
            number = bound;
        }

        private void offerMost(int candidate, int its) {
            if (its > number) {
                best = candidate;
                number = its;
            }
        }

        private void offerFewest(int candidate, int its) {
            if (its < number) {
                best = candidate;
                number = its;
            }
        }

        void seekNewPeg(int k) {
            seekFrom(-1);
            int before = slope.pegs;
            for (int cell = 0; cell < 10 * ROWS; cell++) {
                if (slope.addPeg(cell, k) > 0) {
                    offerMost(cell, Integer.bitCount(court.wonBy(k)));
                    slope.cutPegs(before);
                }
            }
        }

        void seekCellOf(int i) {
            seekFrom(-1);
            if (!slope.isPeg(i)) {
                return;
            }
            int home = slope.pegCell[i];
            int k = slope.pegRag[i];
            for (int cell = 0; cell < 10 * ROWS; cell++) {
                if (cell == home || slope.isFree(cell)) {
                    slope.movePeg(i, cell);
                    offerMost(cell, Integer.bitCount(court.wonBy(k)));
                    slope.movePeg(i, home);
                }
            }
        }

        void seekNewSlug(int k) {
            seekFrom(MOST_SUITS + 1);
            int before = slope.slugs;
            for (int cell = 0; cell < 10 * ROWS; cell++) {
                if (slope.addSlug(cell) > 0) {
                    offerFewest(cell, Integer.bitCount(court.wonByOthers(k)));
                    slope.cutSlugs(before);
                }
            }
        }

        void seekPair(int k) {
            seekFrom(Integer.bitCount(court.wonBy(k)));
            for (int a = 0; a < slope.hedgehogs; a++) {
                for (int b = a + 1; b < slope.hedgehogs; b++) {
                    slope.exchangeHedgehogs(a, b);
                    offerMost(10 * a + b, Integer.bitCount(court.wonBy(k)));
                    slope.exchangeHedgehogs(a, b);
                }
            }
        }

        void seekNeedlessPeg(int k) {
            seekFrom(Integer.bitCount(court.wonBy(k)));
            for (int i = 0; i < slope.pegs; i++) {
                slope.hidePeg(i);
                offerMost(i, Integer.bitCount(court.wonBy(k)));
                slope.showPeg(i);
            }
        }

        /** The column that tells most of the speeds (bits) that a hedgehog of a kind may have. */
        void seekQuestion(int kind, int speeds) {
            seekFrom(Integer.bitCount(speeds));
            for (int c = 0; c < COLUMNS; c++) {
                offerFewest(c, leftAtWorst(kind, speeds, c));
            }
        }

        private int leftAtWorst(int kind, int speeds, int column) {
            Arrays.fill(speedsByEnd, 0);
            int worst = 0;
            for (int speed = 1; speed <= FASTEST; speed++) {
                if ((speeds >> speed & 1) == 1) {
                    int rest = court.letGoAs(kind, speed, column).rest;
                    int end = slope.isPeg(rest) ? rest : MOST_PEGS;
                    speedsByEnd[end]++;
                    worst = Math.max(worst, speedsByEnd[end]);
                }
            }
            return worst;
        }
    }

    /** Runs that turn the other way by v out of ten, all of them at once, each by its weight. */
    private static final class Odds {
        /** Ten rows, a tenth in each at the most: every weight stays a whole number. */
        static final long WHOLE = 10000000000L;
        private static final int LEFT = FASTEST + 1;

        long won = 0;
        long met = 0;
        /** Weights by 10 times the column and the speed left: in a row, in the next one. */
        private final long[] here = new long[COLUMNS * LEFT];
        private final long[] below = new long[COLUMNS * LEFT];

        /** The weight with which one wins, and of all the pegs that are met. */
        void follow(Slope slope, int v, int h, int fromColumn, int k) {
            won = 0;
            met = 0;
            Arrays.fill(here, 0L);
            if (!slope.isHedgehog(h) || !Slope.isColumn(fromColumn)) {
                return;
            }
            int kind = slope.kind[h];
            add(here, fromColumn, slope.speed[h], WHOLE);
            for (int row = 0; row < ROWS; row++) {
                Arrays.fill(below, 0L);
                for (int column = 0; column < COLUMNS; column++) {
                    int standing = slope.standingAt(10 * row + column);
                    if (slope.isPeg(standing)) {
                        boolean wins = slope.pegRag[standing] == k;
                        meet(kind, row, column, v, wins);
                    } else if (standing != Slope.SLUG) {
                        goOn(column);
                    }
                }
                System.arraycopy(below, 0, here, 0, COLUMNS * LEFT);
            }
        }

        private static void add(long[] weights, int column, int left, long weight) {
            int i = LEFT * column + left;
            if (i >= 0 && i < weights.length) {
                weights[i] += weight;
            }
        }

        private void goOn(int column) {
            for (int left = 1; left < LEFT; left++) {
                add(below, column, left, here[LEFT * column + left]);
            }
        }

        private void meet(int kind, int row, int column, int v, boolean wins) {
            int turn = Course.turn(kind, row);
            int oneWay = Course.columnBeside(column, turn);
            int otherWay = Course.columnBeside(column, -turn);
            for (int speed = 0; speed < LEFT; speed++) {
                long weight = here[LEFT * column + speed];
                int left = speed - Course.loss(kind);
                met += weight;
                if (left > 0) {
                    add(below, oneWay, left, weight / 10 * (10 - v));
                    add(below, otherWay, left, weight / 10 * v);
                } else if (wins) {
                    won += weight;
                }
            }
        }
    }

    /** What was seen: a hedgehog from a column rests on a peg, or on none. */
    private static final class Seen {
        private final int[] hedgehog = new int[MOST_SEEN];
        private final int[] column = new int[MOST_SEEN];
        private final int[] peg = new int[MOST_SEEN];
        int size = 0;

        int add(int h, int c, int i) {
            if (size >= MOST_SEEN) {
                return FULL;
            }
            hedgehog[size] = h;
            column[size] = c;
            peg[size] = i;
            size++;
            return size;
        }

        private boolean holds(Court court) {
            for (int i = 0; i < size; i++) {
                if (!court.slope.isHedgehog(hedgehog[i])) {
                    return false;
                }
                int rest = court.letGo(hedgehog[i], column[i]).rest;
                if (peg[i] != (rest == NONE ? NOWHERE : rest)) {
                    return false;
                }
            }
            return true;
        }

        /** Bits of kinds; the court's slope is changed while they are tried. */
        int fittingKinds(Court court, int h) {
            Slope slope = court.slope;
            int bits = 0;
            if (slope.isHedgehog(h)) {
                int before = slope.kind[h];
                for (int kind = 0; kind < KINDS; kind++) {
                    slope.kind[h] = kind;
                    if (holds(court)) {
                        bits |= 1 << kind;
                    }
                }
                slope.kind[h] = before;
            }
            return bits;
        }

        /** Bits of speeds; the court's slope is changed while they are tried. */
        int fittingSpeeds(Court court, int h) {
            Slope slope = court.slope;
            int bits = 0;
            if (slope.isHedgehog(h)) {
                int before = slope.speed[h];
                for (int speed = 1; speed <= FASTEST; speed++) {
                    slope.speed[h] = speed;
                    if (holds(court)) {
                        bits |= 1 << speed;
                    }
                }
                slope.speed[h] = before;
            }
            return bits;
        }
    }

    /** The bytes that were fed. */
    private static final class Tape {
        private final int[] bytes = new int[TAPE_BYTES];
        int length = 0;

        int add(int c) {
            if (length >= TAPE_BYTES) {
                return FULL;
            }
            bytes[length] = c;
            length++;
            return length;
        }

        /** -1: behind the end. */
        int byteAt(int i) {
            return i >= 0 && i < length && i < TAPE_BYTES ? bytes[i] : -1;
        }

        /** The first place from one on that has no byte from least to most. */
        int endOfRun(int from, int least, int most) {
            int i = Math.max(0, from);
            while (i < length && i < TAPE_BYTES && bytes[i] >= least && bytes[i] <= most) {
                i++;
            }
            return i;
        }
    }

    /** Reads a tape, token by token, onto a draft; behind a fault nothing more is read. */
    private static final class Reader {
        private static final int NAME = 1, NUMBER = 2, SEMICOLON = 3, END = 4;
        private static final int NO_TOKEN = 1, OUT_OF_PLACE = 2, OUT_OF_BOUNDS = 3, TAKEN = 4, TOO_MANY = 5,
            NO_HEDGEHOG = 6;

        final Slope draft = new Slope();
        int trouble = NO_FAULT;
        private final Tape tape;
        private int troublePlace = 0;
        private int token = END;
        private int tokenStart = 0;
        private int tokenEnd = 0;
        private int value = 0;

        Reader(Tape tape) {
            this.tape = tape;
        }

        /** How many lines; -10 less the place of the fault. */
        int readAll() {
            draft.empty();
            trouble = NO_FAULT;
            tokenEnd = 0;
            int lines = 0;
            advance();
            // A line has some bytes at least, so that there are fewer lines than the tape has bytes.
            while (lines < TAPE_BYTES && trouble == NO_FAULT && token != END) {
                readLine();
                advance();
                lines++;
            }
            for (int i = 0; i < draft.suits; i++) {
                if (!draft.isHedgehog(draft.suitHedgehog[i])) {
                    fail(NO_HEDGEHOG);
                }
            }
            return trouble == NO_FAULT ? lines : -10 - troublePlace;
        }

        /** The token at hand is at fault, if none was before. */
        private void fail(int fault) {
            if (trouble == NO_FAULT) {
                trouble = fault;
                troublePlace = tokenStart;
            }
        }

        private void advance() {
            if (trouble != NO_FAULT) {
                return;
            }
            tokenStart = tape.endOfRun(tokenEnd, ' ', ' ');
            int c = tape.byteAt(tokenStart);
            if (tokenStart >= tape.length) {
                token = END;
                tokenEnd = tokenStart;
            } else if (c >= 'a' && c <= 'z') {
                token = NAME;
                tokenEnd = tape.endOfRun(tokenStart, 'a', 'z');
            } else if (c >= '0' && c <= '9') {
                token = NUMBER;
                tokenEnd = tape.endOfRun(tokenStart, '0', '9');
                valueNumber();
            } else if (c == ';') {
                token = SEMICOLON;
                tokenEnd = tokenStart + 1;
            } else {
                fail(NO_TOKEN);
            }
        }

        private void valueNumber() {
            int figures = tokenEnd - tokenStart;
            if (figures > 2) {
                fail(NO_TOKEN);
            } else {
                int last = tape.byteAt(tokenEnd - 1) - '0';
                value = figures == 2 ? 10 * (tape.byteAt(tokenStart) - '0') + last : last;
            }
        }

        private boolean isNamed(String word) {
            if (token != NAME || tokenEnd - tokenStart != word.length()) {
                return false;
            }
            for (int i = 0; i < word.length(); i++) {
                if (tape.byteAt(tokenStart + i) != word.charAt(i)) {
                    return false;
                }
            }
            return true;
        }

        private void readLine() {
            if (isNamed("peg")) {
                readPeg();
            } else if (isNamed("slug")) {
                readSlug();
            } else if (isNamed("suit")) {
                readSuit();
            } else if (isNamed("plain")) {
                readHedgehog(PLAIN);
            } else if (isNamed("fat")) {
                readHedgehog(FAT);
            } else if (isNamed("young")) {
                readHedgehog(YOUNG);
            } else if (isNamed("boar")) {
                readHedgehog(BOAR);
            } else {
                fail(OUT_OF_PLACE);
            }
        }

        private void readPeg() {
            if (draft.pegs >= MOST_PEGS) {
                fail(TOO_MANY);
            }
            int cell = takeNumber(0, 10 * ROWS - 1);
            mustBeFree(cell);
            int rag = takeNumber(0, RAGS - 1);
            takeSemicolon();
            if (trouble == NO_FAULT) {
                draft.addPeg(cell, rag);
            }
        }

        private void readSlug() {
            if (draft.slugs >= MOST_SLUGS) {
                fail(TOO_MANY);
            }
            int cell = takeNumber(0, 10 * ROWS - 1);
            mustBeFree(cell);
            takeSemicolon();
            if (trouble == NO_FAULT) {
                draft.addSlug(cell);
            }
        }

        private void readHedgehog(int kind) {
            if (draft.hedgehogs >= MOST_HEDGEHOGS) {
                fail(TOO_MANY);
            }
            int speed = takeNumber(1, FASTEST);
            takeSemicolon();
            if (trouble == NO_FAULT) {
                draft.addHedgehog(kind, speed);
            }
        }

        private void readSuit() {
            if (draft.suits >= MOST_SUITS) {
                fail(TOO_MANY);
            }
            int h = takeNumber(0, MOST_HEDGEHOGS - 1);
            int column = takeNumber(0, COLUMNS - 1);
            takeSemicolon();
            if (trouble == NO_FAULT) {
                draft.addSuit(h, column);
            }
        }

        /** The next token as a number; what this is by a fault is of no account. */
        private int takeNumber(int least, int most) {
            advance();
            if (token != NUMBER) {
                fail(OUT_OF_PLACE);
            } else if (value < least || value > most) {
                fail(OUT_OF_BOUNDS);
            }
            return value;
        }

        /** The token at hand must be the number of a cell in which there is nothing. */
        private void mustBeFree(int cell) {
            if (!Slope.isCell(cell)) {
                fail(OUT_OF_BOUNDS);
            } else if (!draft.isFree(cell)) {
                fail(TAKEN);
            }
        }

        private void takeSemicolon() {
            advance();
            if (token != SEMICOLON) {
                fail(OUT_OF_PLACE);
            }
        }
    }

    /** A row of bytes, shorts or ints, or nothing. */
    private static final class Sheet {
        static final int NOTHING = -1, BYTES = 0, SHORTS = 1;

        int lane = NOTHING;
        int size = 0;
        /** As wide as the widest lane: store() keeps only the bits that the lane has. */
        private final int[] cells = new int[SHEET_CELLS];

        void renew(int newLane, int newSize) {
            lane = newLane;
            size = Math.max(0, Math.min(SHEET_CELLS, newSize));
            Arrays.fill(cells, 0);
        }

        /** What the machine would find with cell i of this, taken as of a lane; NO_FAULT. */
        int refusal(int asLane, int i) {
            if (lane == NOTHING) {
                return NULL_FAULT;
            }
            if (lane != asLane) {
                return CAST_FAULT;
            }
            return i < 0 || i >= size ? INDEX_FAULT : NO_FAULT;
        }

        /** Likewise with cells i and i + 1. */
        int refusalOfTwo(int asLane, int i) {
            int refusal = refusal(asLane, i);
            return refusal != NO_FAULT ? refusal : refusal(asLane, i + 1);
        }

        void store(int i, int v) {
            if (i < 0 || i >= size) {
                return;
            }
            switch (lane) {
                case BYTES: cells[i] = (byte) v; break;
                case SHORTS: cells[i] = (short) v; break;
                default: cells[i] = v; break;
            }
        }

        int stored(int i) {
            return i >= 0 && i < size ? cells[i] : 0;
        }
    }
}
