import java.util.Arrays;
import java.util.NoSuchElementException;

/** A club of chess pieces that pay rent for their squares. */
public final class RentBoard {
    public static final int NONE = -1;

    private static final int MOST_PIECES = 8;
    private static final int NOBODY = 8;
    private static final int SIDE_LENGTH = 5;
    private static final int SQUARES = 25;
    private static final int OUT = 25;
    private static final int EVERYWHERE = (1 << SQUARES) - 1;
    /** The SQUARES of column 0, of column 4. */
    private static final int LEFT_EDGE = 0x108421;
    private static final int RIGHT_EDGE = LEFT_EDGE << 4;
    private static final int RICHEST = 99;
    private static final int DEAREST = 20;

    private static final int KING = 0;
    private static final int QUEEN = 1;
    private static final int ROOK = 2;
    private static final int BISHOP = 3;
    private static final int KNIGHT = 4;
    private static final int PAWN = 5;

    private static final int MOST_SIGNS = 80;
    private static final int MOST_OF_LINES = 47;
    private static final int MOST_OF_RULE = 40;
    private static final int MOST_OF_GAME = 60;
    private static final int MOST_DEPTH = 4;
    private static final int MOST_DIGITS = 3;

    private static final int MOST_QUARTERS = 60;
    private static final int MOST_DAYS = 20;
    private static final int MOST_WANDERS = 6;
    private static final int MOST_WAYS = 4;
    private static final int LAW_DAYS = 8;
    private static final int MOST_PAST = 12;
    private static final int MOST_KEPT = 2;
    private static final int MOST_HEARD = 12;
    private static final int MOST_SEEN = 10;
    private static final int MOST_LAW = 7;
    private static final int PRICES = 10;
    private static final int CORNER = 19;
    private static final int ROW_LENGTH = 25;
    private static final int WORTH_BASE = 1000;
    /** Beyond any WORTH. */
    private static final int FAR_BEYOND = 10000;

    private static final String LETTERS = "KQRBNPkqrbnp";
    private static final String LINE_SHAPE = "a100";
    private static final String ACTS = "mn/gw";
    private static final String THINGS = "xydkqcn";

    /** d of each SQUARE. */
    private static final int[] FROM_MIDDLE = {
        2, 2, 2, 2, 2,
        2, 1, 1, 1, 2,
        2, 1, 0, 1, 2,
        2, 1, 1, 1, 2,
        2, 2, 2, 2, 2};
    /** The first four directions are straight, the others slant. */
    private static final int[] RIGHT = {1, -1, 0, 0, 1, 1, -1, -1};
    private static final int[] UP = {0, 0, 1, -1, 1, -1, 1, -1};
    private static final int[] JUMP_RIGHT = {1, 2, 2, 1, -1, -2, -2, -1};
    private static final int[] JUMP_UP = {2, 1, -1, -2, -2, -1, 1, 2};
    /** In the order of the columns and rows to which they lead. */
    private static final int[] LEAP_COLUMN = {-2, -2, -1, 1};
    private static final int[] LEAP_ROW = {-1, 1, -2, -2};
    /** The greatest v that may be heard, by what. */
    private static final int[] MOST_HEARD_V = {5, 1, 9, 2, 9};

    private final Text text = new Text();
    private final Row told = new Row();
    private final Rule rule = new Rule();
    private final Rule otherRule = new Rule();
    private final State now = new State();
    private final State before = new State();
    private final State trial = new State();
    private final Past past = new Past();
    private final State[] kept = {new State(), new State()};
    private final boolean[] wasKept = new boolean[MOST_KEPT];
    private final Facts news = new Facts(MOST_HEARD);
    private final Facts sights = new Facts(MOST_SEEN);
    private final Walk walk = new Walk();
    private final Lookahead lookahead = new Lookahead();
    private final boolean[] lostInCorner = new boolean[CORNER * CORNER];

    public RentBoard() {
    }

    // ---- pieces

    public int sign(int v) {
        return text.addFour(v) ? text.size : NONE;
    }

    public boolean end(int n) {
        return text.shorten(n);
    }

    public int pieces() {
        if (text.size == 0) {
            return 0;
        }
        trial.copyFrom(now);
        int fault = readLines();
        text.shorten(0);
        if (fault >= 0) {
            return -1 - fault;
        }
        int came = trial.size - now.size;
        now.copyFrom(trial);
        past.forgetAll();
        return came;
    }

    /** Puts the LINES of THE TEXT into the trial state: NONE, or where THE TEXT fails. */
    private int readLines() {
        int limit = Math.min(text.size, MOST_OF_LINES);
        int lineLength = 1 + LINE_SHAPE.length();
        for (int p = 0; p <= limit; p += lineLength + 1) {
            int fault = lineFault(p);
            if (fault >= 0) {
                return fault;
            }
            int letter = LETTERS.indexOf(text.at(p));
            trial.add(letter % 6, letter / 6, text.squareAt(p + 1), text.numberAt(p + 3));
            int behind = p + lineLength;
            if (behind >= limit) {
                return text.size > MOST_OF_LINES ? MOST_OF_LINES : NONE;
            }
            if (text.at(behind) != ';') {
                return behind;
            }
        }
        return limit;
    }

    private int lineFault(int p) {
        if (trial.size >= MOST_PIECES || LETTERS.indexOf(text.at(p)) < 0) {
            return p;
        }
        for (int i = 0; i < LINE_SHAPE.length(); i++) {
            if (!suits(text.at(p + 1 + i), LINE_SHAPE.charAt(i))) {
                return p + 1 + i;
            }
            if (i == 1 && trial.whoStandsOn(text.squareAt(p + 1)) != NOBODY) {
                return p + 1;
            }
        }
        return NONE;
    }

    public int rule() {
        int fault = otherRule.read(text);
        text.shorten(0);
        if (fault >= 0) {
            return -1 - fault;
        }
        rule.copyFrom(otherRule);
        return 0;
    }

    public int piece(int piece, int what) throws NoSuchElementException {
        if (!now.has(piece)) {
            throw new NoSuchElementException("no such piece");
        }
        switch (what) {
            case 0:
                return now.kind[piece];
            case 1:
                return now.side[piece];
            case 2:
                return now.place[piece];
            case 3:
                return now.purse[piece];
            case 4:
                return now.due(rule, piece);
            default:
                throw new NoSuchElementException("nothing such of a piece");
        }
    }

    public int square(int square) throws NoSuchElementException {
        if (!isSquare(square)) {
            throw new NoSuchElementException("no such square");
        }
        return now.whoStandsOn(square);
    }

    public int rent(int piece, int square) throws NoSuchElementException {
        if (!now.stands(piece) || !isSquare(square)) {
            throw new NoSuchElementException("no such piece on the board, or no such square");
        }
        return now.rentAt(rule, piece, square, now.quarter);
    }

    public int sheet(int kind, int n, int f, int step) {
        if (kind < 0 || kind > 3 || n > MOST_PIECES) {
            return NONE;
        }
        if (kind < 3 && n < 0) {
            return -2;
        }
        int entries = kind == 3 ? 0 : n;
        for (int i = 0; i < now.size; i++) {
            boolean isTold = i < entries && now.stands(i);
            now.purse[i] = isTold ? put(entryOf(kind, f + i * step), RICHEST) : 0;
        }
        return kind == 3 ? -3 : now.pursesOf(0) + now.pursesOf(1);
    }

    private static int entryOf(int kind, int v) {
        if (kind == 0) {
            return (byte) v;
        }
        return kind == 1 ? (short) v : v;
    }

    // ---- moves, quarter days

    public int moves(int piece, int square) {
        before.copyFrom(now);
        int more = makeMove(piece, square);
        if (more < 0) {
            return more;
        }
        past.add(before);
        tell(now.purse[piece], now.kind[piece]);
        return more;
    }

    private int makeMove(int piece, int square) {
        if (!now.has(piece) || !isSquare(square)) {
            return NONE;
        }
        if (!now.isOnTurn(piece)) {
            return -2;
        }
        if (!holds(now.reach(piece), square)) {
            return -3;
        }
        return now.move(piece, square);
    }

    public int quarters(int n) {
        if (n < 0 || n > MOST_QUARTERS) {
            return NONE;
        }
        past.add(now);
        int stood = now.standing();
        tell(now.live(rule, n));
        return stood - now.standing();
    }

    public int passes() {
        past.add(now);
        return turnOver();
    }

    private int turnOver() {
        now.turn = 1 - now.turn;
        return now.turn;
    }

    public int gives(int one, int other, int n) {
        before.copyFrom(now);
        int left = hand(one, other, n);
        if (left >= 0) {
            past.add(before);
        }
        return left;
    }

    private int hand(int one, int other, int n) {
        if (!now.has(one) || !now.has(other) || one == other || n < 1 || n > RICHEST) {
            return NONE;
        }
        if (!now.stands(one) || !now.stands(other)) {
            return -2;
        }
        if (now.purse[one] < n) {
            return -3;
        }
        if (now.purse[other] + n > RICHEST) {
            return -4;
        }
        now.purse[one] -= n;
        now.purse[other] += n;
        return now.purse[one];
    }

    public int wages(int side, int n) {
        before.copyFrom(now);
        int paid = payWages(side, n);
        if (paid >= 0) {
            past.add(before);
        }
        return paid;
    }

    private int payWages(int side, int n) {
        if (!isSide(side) || n < 1 || n > 9) {
            return NONE;
        }
        int paid = 0;
        for (int i = 0; i < now.size; i++) {
            if (now.stands(i) && now.side[i] == side) {
                now.purse[i] = Math.min(now.purse[i] + n, RICHEST);
                paid++;
            }
        }
        return paid;
    }

    public int game() {
        int fault = gameFault();
        if (fault >= 0) {
            text.shorten(0);
            return -1 - fault;
        }
        before.copyFrom(now);
        int done = 0;
        boolean failed = false;
        for (int p = 0; p < text.size && !failed; p += 1 + shapeOf(text.at(p)).length()) {
            failed = doAct(p) < 0;
            done += failed ? 0 : 1;
        }
        text.shorten(0);
        if (done > 0) {
            past.add(before);
        }
        tell(failed ? 1 : 0, now.standing());
        return done;
    }

    private int gameFault() {
        int limit = Math.min(text.size, MOST_OF_GAME);
        for (int p = 0; p < limit; p += 1 + shapeOf(text.at(p)).length()) {
            if (ACTS.indexOf(text.at(p)) < 0) {
                return p;
            }
            String shape = shapeOf(text.at(p));
            for (int i = 0; i < shape.length(); i++) {
                int at = p + 1 + i;
                if (at >= limit || !suits(text.at(at), shape.charAt(i))) {
                    return at;
                }
            }
        }
        return text.size > MOST_OF_GAME ? MOST_OF_GAME : NONE;
    }

    /** What stands behind the letter of an ACT, as suits() knows it. */
    private static String shapeOf(char act) {
        switch (act) {
            case 'm':
                return "0a1";
            case 'n':
                return "0";
            case 'g':
                return "0000";
            case 'w':
                return "00";
            default:
                return "";
        }
    }

    private int doAct(int p) {
        switch (text.at(p)) {
            case 'm':
                return makeMove(text.digitAt(p + 1), text.squareAt(p + 2));
            case 'n':
                return now.live(rule, text.digitAt(p + 1));
            case 'g':
                return hand(text.digitAt(p + 1), text.digitAt(p + 2), text.numberAt(p + 3));
            case 'w':
                return payWages(text.digitAt(p + 1), text.digitAt(p + 2));
            default:
                return turnOver();
        }
    }

    public int undo() {
        return past.takeLatest(now) ? past.size : NONE;
    }

    // ---- where one can go

    public int goes(int piece) {
        if (!now.has(piece)) {
            return NONE;
        }
        if (!now.stands(piece)) {
            return -2;
        }
        int open = now.reach(piece);
        int foes = now.squaresOf(1 - now.side[piece], piece);
        tell(Integer.bitCount(open), Integer.bitCount(open & foes));
        return open;
    }

    public int threats(int piece) {
        if (!now.has(piece)) {
            return NONE;
        }
        if (!now.stands(piece)) {
            return -2;
        }
        int found = 0;
        for (int i = 0; i < now.size; i++) {
            if (now.side[i] != now.side[piece] && holds(now.reach(i), now.place[piece])) {
                found |= 1 << i;
            }
        }
        tell(Integer.bitCount(found));
        return found;
    }

    public int hops(int piece, int square) {
        if (!now.has(piece) || !isSquare(square)) {
            return NONE;
        }
        if (!now.stands(piece)) {
            return -2;
        }
        walk.open(now, piece);
        int fewest = walk.fewestTo(square);
        if (fewest < 0) {
            return -2;
        }
        told.size = 0;
        walk.tellFewest(fewest, told);
        return fewest;
    }

    public int ways(int piece, int square, int n) {
        if (!now.has(piece) || !isSquare(square) || n < 0 || n > MOST_WAYS) {
            return NONE;
        }
        if (!now.stands(piece)) {
            return -2;
        }
        walk.open(now, piece);
        return walk.rowsTo(square, n);
    }

    // ---- rents

    public int owes(int side) {
        if (!isSide(side)) {
            return NONE;
        }
        int owed = 0;
        int poor = 0;
        for (int i = 0; i < now.size; i++) {
            if (now.side[i] == side) {
                int due = now.due(rule, i);
                owed += due;
                poor |= now.purse[i] < due ? 1 << i : 0;
            }
        }
        tell(now.pursesOf(side), poor);
        return owed;
    }

    public int later(int piece, int n) {
        if (!now.has(piece) || n < 0 || n > MOST_QUARTERS) {
            return NONE;
        }
        if (!now.stands(piece)) {
            return -2;
        }
        trial.copyFrom(now);
        trial.live(rule, n);
        tell(trial.standingPieces(), trial.pursesOf(0) + trial.pursesOf(1));
        return trial.stands(piece) ? trial.purse[piece] : 100;
    }

    public int when(int piece) {
        if (!now.has(piece)) {
            return NONE;
        }
        if (!now.stands(piece)) {
            return -3;
        }
        trial.copyFrom(now);
        for (int day = 1; day <= MOST_QUARTERS; day++) {
            int stood = trial.standing();
            trial.quarterDay(rule);
            if (!trial.stands(piece)) {
                tell(stood - trial.standing());
                return day;
            }
        }
        return -2;
    }

    public int needs(int piece, int n) {
        if (!now.has(piece) || n < 1 || n > MOST_DAYS) {
            return NONE;
        }
        if (!now.stands(piece)) {
            return -3;
        }
        trial.copyFrom(now);
        int needed = 0;
        for (int day = 0; day < n; day++) {
            // No RENT looks at a PURSE: by every PURSE that lasts the days go alike.
            trial.purse[piece] = RICHEST;
            needed += trial.due(rule, piece);
            trial.quarterDay(rule);
        }
        return needed > RICHEST ? -2 : needed;
    }

    public int cheapest(int piece) {
        if (!now.has(piece)) {
            return NONE;
        }
        if (!now.stands(piece)) {
            return -2;
        }
        int open = now.reach(piece) & ~now.others(piece) | 1 << now.place[piece];
        int least = DEAREST + 1;
        int found = now.place[piece];
        for (int square = 0; square < SQUARES; square++) {
            int asked = holds(open, square) ? now.rentAt(rule, piece, square, now.quarter) : DEAREST + 1;
            if (asked < least) {
                least = asked;
                found = square;
            }
        }
        tell(least, now.due(rule, piece));
        return found;
    }

    public int wanders(int piece, int n) {
        if (!now.has(piece) || n < 1 || n > MOST_WANDERS) {
            return NONE;
        }
        if (!now.stands(piece)) {
            return -2;
        }
        walk.open(now, piece);
        int least = walk.leastRents(now, rule, piece, n);
        told.size = 0;
        walk.tellLeastRents(n, told);
        return least;
    }

    public int stays(int piece, int n) {
        if (!now.has(piece) || n < 1 || n > MOST_DAYS) {
            return NONE;
        }
        if (!now.stands(piece)) {
            return -2;
        }
        int taken = now.others(piece);
        int found = 0;
        for (int square = 0; square < SQUARES; square++) {
            if (!holds(taken, square) && rentsAt(piece, square, n) <= now.purse[piece]) {
                found |= 1 << square;
            }
        }
        tell(Integer.bitCount(found));
        return found;
    }

    private int rentsAt(int piece, int square, int n) {
        int all = 0;
        for (int day = 0; day < n; day++) {
            all += now.rentAt(rule, piece, square, now.quarter + day);
        }
        return all;
    }

    // ---- what pays best (WORTH of a SIDE: PURSES of its PIECES together, less those of the other SIDE's)

    public int best() {
        int worth = lookahead.oneMove(now, rule, FAR_BEYOND);
        if (lookahead.lastMove < 0) {
            return -2;
        }
        tell(WORTH_BASE + worth);
        return lookahead.lastMove;
    }

    public int looks(int n) {
        if (n < 0 || n > 2) {
            return NONE;
        }
        int worth;
        if (n == 0) {
            worth = now.worthBehindDay(rule, now.turn);
            lookahead.firstMove = NONE;
            lookahead.lastMove = NONE;
        } else if (n == 1) {
            worth = lookahead.oneMove(now, rule, FAR_BEYOND);
            lookahead.firstMove = NONE;
        } else {
            worth = lookahead.twoMoves(now, rule);
        }
        told.size = 0;
        if (lookahead.firstMove >= 0) {
            told.add(lookahead.firstMove);
        }
        if (lookahead.lastMove >= 0) {
            told.add(lookahead.lastMove);
        }
        return WORTH_BASE + worth;
    }

    public int choices() {
        int all = 0;
        int movable = 0;
        int captures = 0;
        for (int i = 0; i < now.size; i++) {
            int open = now.isOnTurn(i) ? now.reach(i) : 0;
            all += Integer.bitCount(open);
            movable += open != 0 ? 1 : 0;
            captures += Integer.bitCount(open & now.squaresOf(1 - now.turn, i));
        }
        tell(movable, captures);
        return all;
    }

    // ---- which piece it was

    public int heard(int what, int v) {
        if (what < 0 || what >= MOST_HEARD_V.length || v < 0 || v > MOST_HEARD_V[what]) {
            return NONE;
        }
        return news.add(what, v);
    }

    public int forget() {
        return news.forgetAll();
    }

    public int fits() {
        int found = fitting();
        tell(Integer.bitCount(found));
        return found;
    }

    private int fitting() {
        int found = now.standingPieces();
        for (int i = 0; i < news.size; i++) {
            found &= whichAre(news.what[i], news.value[i]);
        }
        return found;
    }

    /** PIECES (bits), not OUT, of which what is v. */
    private int whichAre(int what, int v) {
        int found = 0;
        for (int i = 0; i < now.size; i++) {
            if (now.stands(i) && isSo(i, what, v)) {
                found |= 1 << i;
            }
        }
        return found;
    }

    private boolean isSo(int piece, int what, int v) {
        switch (what) {
            case 0:
                return now.kind[piece] == v;
            case 1:
                return now.side[piece] == v;
            case 2:
                return now.purse[piece] >= 10 * v;
            case 3:
                return fromMiddle(now.place[piece]) == v;
            default:
                return Integer.bitCount(now.reach(piece)) >= v;
        }
    }

    public int asks() {
        int left = fitting();
        if (left == 0) {
            return -2;
        }
        int all = Integer.bitCount(left);
        int least = MOST_PIECES + 1;
        int found = NONE;
        for (int what = 0; what < MOST_HEARD_V.length; what++) {
            for (int v = 0; v <= MOST_HEARD_V[what]; v++) {
                int so = Integer.bitCount(left & whichAre(what, v));
                int most = Math.max(so, all - so);
                if (most < least) {
                    least = most;
                    found = 10 * what + v;
                }
            }
        }
        tell(least);
        return found;
    }

    // ---- laws of rent (a 0 .. 6, b 0 .. 6: a for each that d is less than 2, and b)

    public int saw(int d, int v) {
        if (d < 0 || d > 2 || v < 0 || v > DEAREST) {
            return NONE;
        }
        return sights.add(d, v);
    }

    public int denies() {
        return sights.forgetAll();
    }

    public int laws() {
        told.size = 0;
        int all = 0;
        for (int i = 0; i < MOST_LAW * MOST_LAW; i++) {
            if (isLaw(i)) {
                all++;
                if (all == 1) {
                    tell(i / MOST_LAW, i % MOST_LAW);
                }
            }
        }
        return all;
    }

    /** RENT by law i (7 times a, and b) on a SQUARE of d. */
    private static int lawAt(int i, int d) {
        return i / MOST_LAW * (2 - d) + i % MOST_LAW;
    }

    private boolean isLaw(int i) {
        for (int j = 0; j < sights.size; j++) {
            if (lawAt(i, sights.what[j]) != sights.value[j]) {
                return false;
            }
        }
        return true;
    }

    public int sees() {
        int least = MOST_LAW * MOST_LAW + 1;
        int found = NONE;
        for (int d = 0; d <= 2; d++) {
            int most = mostLeft(d);
            if (most < least) {
                least = most;
                found = d;
            }
        }
        if (least == 0) {
            return -2;
        }
        tell(least);
        return found;
    }

    private int mostLeft(int d) {
        int most = 0;
        for (int v = 0; v <= DEAREST; v++) {
            int left = 0;
            for (int i = 0; i < MOST_LAW * MOST_LAW; i++) {
                left += lawAt(i, d) == v && isLaw(i) ? 1 : 0;
            }
            most = Math.max(most, left);
        }
        return most;
    }

    // ---- chances, a knight

    public int odds(int side, int k, int p) {
        if (!isSide(side) || k < 0 || k > MOST_PIECES || p < 0 || p > 10) {
            return NONE;
        }
        int all = now.standingOf(side);
        long upper = 0;
        long choices = 1;
        for (int stay = 0; stay <= all; stay++) {
            if (stay >= k) {
                upper += choices * power(10 - p, stay) * power(p, all - stay);
            }
            choices = choices * (all - stay) / (stay + 1);
        }
        long lower = power(10, all);
        long common = commonOf(upper, lower);
        tell(upper / common, lower / common);
        return 0;
    }

    private static long power(long base, int n) {
        long all = 1;
        for (int i = 0; i < n; i++) {
            all *= base;
        }
        return all;
    }

    /** The greatest common divisor; 1 rather than 0. */
    private static long commonOf(long a, long b) {
        long one = a;
        long other = b;
        for (int i = 0; i < 100 && other != 0; i++) {
            long rest = one % other;
            one = other;
            other = rest;
        }
        return Math.max(one, 1);
    }

    public int knights(int x, int y) {
        if (x < 0 || x > 9 || y < 0 || y > 9) {
            return NONE;
        }
        // No leap leads to as great a sum of column and row.
        for (int sum = 0; sum < x + y; sum++) {
            for (int column = 0; column <= sum; column++) {
                lostInCorner[CORNER * column + sum - column] = winningLeap(column, sum - column) < 0;
            }
        }
        int leap = winningLeap(x, y);
        if (leap < 0) {
            told.size = 0;
            return 0;
        }
        tell(x + LEAP_COLUMN[leap], y + LEAP_ROW[leap]);
        return 1;
    }

    private int winningLeap(int column, int row) {
        for (int i = 0; i < LEAP_COLUMN.length && i < LEAP_ROW.length; i++) {
            int toColumn = column + LEAP_COLUMN[i];
            int toRow = row + LEAP_ROW[i];
            boolean inCorner = toColumn >= 0 && toColumn < CORNER && toRow >= 0 && toRow < CORNER;
            if (inCorner && lostInCorner[CORNER * toColumn + toRow]) {
                return i;
            }
        }
        return NONE;
    }

    // ---- rests, rules, years

    public int rests(int v) {
        if (v < 0 || v > 20) {
            return NONE;
        }
        told.size = 0;
        int all = 0;
        for (int x = 0; x < PRICES; x++) {
            for (int y = 0; y < PRICES; y++) {
                if (isContent(v, x, y) && isContent(v, y, x)) {
                    all++;
                    if (all == 1) {
                        tell(x, y);
                    }
                }
            }
        }
        return all;
    }

    private static boolean isContent(int v, int mine, int other) {
        int has = income(v, mine, other);
        for (int price = 0; price < PRICES; price++) {
            if (income(v, price, other) > has) {
                return false;
            }
        }
        return true;
    }

    private static int income(int v, int mine, int other) {
        int would = Math.max(v - 2 * mine, 0);
        if (mine < other) {
            return would * mine;
        }
        return (mine > other ? would / 3 : would / 2) * mine;
    }

    public int law() {
        int fault = otherRule.read(text);
        text.shorten(0);
        if (fault >= 0) {
            return -10000 - fault;
        }
        trial.copyFrom(now);
        int otherPaid = trial.live(otherRule, LAW_DAYS);
        int otherStanding = trial.standing();
        trial.copyFrom(now);
        int paid = trial.live(rule, LAW_DAYS);
        int standing = trial.standing();
        tell(otherStanding, standing);
        told.add(otherPaid);
        told.add(paid);
        return otherStanding - standing;
    }

    public int years(int seed, int n) {
        if (n < 1 || n > MOST_QUARTERS) {
            return NONE;
        }
        trial.copyFrom(now);
        int drawn = seed;
        for (int i = 0; i < n; i++) {
            drawn = nextDraw(drawn);
            if (lot(drawn, 4) == 3) {
                trial.quarterDay(rule);
            } else if (trial.size > 0) {
                drawn = nextDraw(drawn);
                int piece = lot(drawn, trial.size);
                drawn = nextDraw(drawn);
                int square = lot(drawn, SQUARES);
                if (trial.isOnTurn(piece) && holds(trial.reach(piece), square)) {
                    trial.move(piece, square);
                }
            }
        }
        tell(trial.pursesOf(0) + trial.pursesOf(1), trial.made - now.made);
        return trial.standing();
    }

    private static int nextDraw(int drawn) {
        return drawn * 1103515245 + 12345;
    }

    private static int lot(int drawn, int n) {
        return n < 1 ? 0 : (drawn >>> 16) % n;
    }

    // ---- kept

    public boolean keep(int i) {
        if (i < 0 || i >= MOST_KEPT) {
            return false;
        }
        kept[i].copyFrom(now);
        wasKept[i] = true;
        return true;
    }

    public boolean again(int i) {
        // PIECES never become fewer: as many as then are those of then.
        if (i < 0 || i >= MOST_KEPT || !wasKept[i] || kept[i].size != now.size) {
            return false;
        }
        now.copyFrom(kept[i]);
        past.forgetAll();
        return true;
    }

    public int count(int what) {
        switch (what) {
            case 0:
                return now.size;
            case 1:
                return now.standingPieces();
            case 2:
                return now.turn;
            case 3:
                return now.quarter;
            case 4:
                return now.made;
            case 5:
            case 6:
                return now.pursesOf(what - 5);
            case 7:
                return news.size;
            case 8:
                return sights.size;
            case 9:
                return past.size;
            case 10:
                return told.size;
            case 11:
                return text.size;
            default:
                return NONE;
        }
    }

    public long row(int i) throws NoSuchElementException {
        if (i < 0 || i >= told.size || i >= ROW_LENGTH) {
            throw new NoSuchElementException("no such number");
        }
        return told.numbers[i];
    }

    private void tell(long one) {
        told.size = 0;
        told.add(one);
    }

    private void tell(long one, long other) {
        told.size = 0;
        told.add(one);
        told.add(other);
    }

    // ---- signs, squares

    /** Shapes: 0 any digit, a the letter of a column, 1 the digit of a row. */
    private static boolean suits(char sign, char shape) {
        switch (shape) {
            case 'a':
                return sign >= 'a' && sign <= 'e';
            case '1':
                return sign >= '1' && sign <= '5';
            default:
                return isDigit(sign);
        }
    }

    private static boolean isDigit(char sign) {
        return sign >= '0' && sign <= '9';
    }

    private static boolean isSquare(int square) {
        return square >= 0 && square < SQUARES;
    }

    private static boolean isSide(int side) {
        return side == 0 || side == 1;
    }

    private static boolean holds(int bits, int i) {
        return i >= 0 && i < 32 && (bits >>> i & 1) != 0;
    }

    private static int firstOf(int bits) {
        for (int i = 0; i < SQUARES; i++) {
            if (holds(bits, i)) {
                return i;
            }
        }
        return NONE;
    }

    private static int put(int v, int most) {
        if (v < 0) {
            return 0;
        }
        return v > most ? most : v;
    }

    private static int fromMiddle(int square) {
        return square >= 0 && square < FROM_MIDDLE.length ? FROM_MIDDLE[square] : 0;
    }

    // ---- where kinds go

    private static int stepFrom(int square, int right, int up) {
        int column = square % SIDE_LENGTH + right;
        int line = square / SIDE_LENGTH + up;
        boolean onBoard = column >= 0 && column < SIDE_LENGTH && line >= 0 && line < SIDE_LENGTH;
        return onBoard ? SIDE_LENGTH * line + column : NONE;
    }

    private static int bitOf(int square) {
        return square >= 0 && square < SQUARES ? 1 << square : 0;
    }

    /** The up to eight SQUARES around one; by bits, as each RENT may ask for them. */
    private static int around(int square) {
        int own = bitOf(square);
        int three = own | (own & ~RIGHT_EDGE) << 1 | (own & ~LEFT_EDGE) >>> 1;
        return (three | three << SIDE_LENGTH | three >>> SIDE_LENGTH) & EVERYWHERE & ~own;
    }

    private static int jumps(int square) {
        int found = 0;
        for (int i = 0; i < JUMP_RIGHT.length && i < JUMP_UP.length; i++) {
            found |= bitOf(stepFrom(square, JUMP_RIGHT[i], JUMP_UP[i]));
        }
        return found;
    }

    /** Along the directions first .. last - 1, up to the first SQUARE that is taken. */
    private static int lines(int square, int first, int last, int taken) {
        int found = 0;
        for (int i = Math.max(first, 0); i < last && i < RIGHT.length && i < UP.length; i++) {
            int at = square;
            for (int far = 1; far < SIDE_LENGTH; far++) {
                at = stepFrom(at, RIGHT[i], UP[i]);
                if (at < 0) {
                    break;
                }
                found |= 1 << at;
                if (holds(taken, at)) {
                    break;
                }
            }
        }
        return found;
    }

    private static int pawnSteps(int square, int side, int own, int foes) {
        int up = side == 0 ? 1 : -1;
        int ahead = bitOf(stepFrom(square, 0, up)) & ~(own | foes);
        int slants = bitOf(stepFrom(square, -1, up)) | bitOf(stepFrom(square, 1, up));
        return ahead | slants & foes;
    }

    /** SQUARES to which a KIND CAN GO from a SQUARE, own ones and foes standing so (bits). */
    private static int reachOf(int kind, int side, int square, int own, int foes) {
        if (!isSquare(square)) {
            return 0;
        }
        switch (kind) {
            case KING:
                return around(square) & ~own;
            case QUEEN:
                return lines(square, 0, 8, own | foes) & ~own;
            case ROOK:
                return lines(square, 0, 4, own | foes) & ~own;
            case BISHOP:
                return lines(square, 4, 8, own | foes) & ~own;
            case KNIGHT:
                return jumps(square) & ~own;
            default:
                return pawnSteps(square, side, own, foes);
        }
    }

    /** THE TEXT. */
    private static final class Text {
        final char[] signs = new char[MOST_SIGNS];
        int size;

        boolean addFour(int v) {
            if (size + 4 > MOST_SIGNS) {
                return false;
            }
            for (int i = 0; i < 4; i++) {
                signs[size + i] = (char) (v >>> 24 - 8 * i & 255);
            }
            size += 4;
            return true;
        }

        boolean shorten(int n) {
            if (n < 0 || n > size) {
                return false;
            }
            size = n;
            return true;
        }

        /** Beyond the end a sign that can stand nowhere. */
        char at(int p) {
            return p >= 0 && p < size && p < MOST_SIGNS ? signs[p] : (char) 0;
        }

        int digitAt(int p) {
            return at(p) - '0';
        }

        int numberAt(int p) {
            return 10 * digitAt(p) + digitAt(p + 1);
        }

        int squareAt(int p) {
            return SIDE_LENGTH * (at(p + 1) - '1') + at(p) - 'a';
        }
    }

    /** The ROW. */
    private static final class Row {
        final long[] numbers = new long[ROW_LENGTH];
        int size;

        void add(long number) {
            if (size < ROW_LENGTH) {
                numbers[size] = number;
                size++;
            }
        }
    }

    /** A RULE, read into a code in which what binds stands behind what it binds. */
    private static final class Rule {
        /** Codes from it on are signs that bind, those below it numbers, those below 0 THINGS. */
        private static final int SIGNS = 1000;
        /** Beyond all signs, so that no text can hold it. */
        private static final int NEGATION = 256;

        final int[] code = new int[MOST_OF_RULE];
        final int[] values = new int[MOST_OF_RULE];
        final int[] waiting = new int[MOST_OF_RULE];
        final boolean[] compared = new boolean[MOST_DEPTH + 1];
        /** What the THINGS are of the SQUARE and piece asked for. */
        final int[] things = new int[THINGS.length()];
        int size;
        int waits;
        int depth;
        int digits;
        boolean wantsThing;

        void copyFrom(Rule other) {
            System.arraycopy(other.code, 0, code, 0, MOST_OF_RULE);
            size = other.size;
        }

        /** NONE, or where the text fails; of an empty text no code is left. */
        int read(Text text) {
            size = 0;
            waits = 0;
            depth = 0;
            digits = 0;
            wantsThing = true;
            compared[0] = false;
            int limit = Math.min(text.size, MOST_OF_RULE);
            for (int p = 0; p < limit; p++) {
                if (!take(text.at(p))) {
                    return p;
                }
            }
            if (limit > 0 && (wantsThing || depth > 0 || text.size > MOST_OF_RULE)) {
                return limit;
            }
            release(1);
            return NONE;
        }

        private boolean take(char sign) {
            if (isDigit(sign)) {
                return takeDigit(sign - '0');
            }
            digits = 0;
            return wantsThing ? takeThing(sign) : takeBinder(sign);
        }

        private boolean takeDigit(int digit) {
            if (wantsThing) {
                emit(digit);
                wantsThing = false;
                digits = 1;
                return true;
            }
            if (digits < 1 || digits >= MOST_DIGITS || size < 1) {
                return false;
            }
            code[size - 1] = 10 * code[size - 1] + digit;
            digits++;
            return true;
        }

        private boolean takeThing(char sign) {
            if (sign == '-') {
                await(NEGATION);
                return true;
            }
            if (sign == '(') {
                if (depth >= MOST_DEPTH) {
                    return false;
                }
                depth++;
                compared[depth] = false;
                await('(');
                return true;
            }
            int thing = THINGS.indexOf(sign);
            if (thing < 0) {
                return false;
            }
            emit(-1 - thing);
            wantsThing = false;
            return true;
        }

        private boolean takeBinder(char sign) {
            if (sign == ')') {
                return closeBracket();
            }
            int rank = rankOf(sign);
            if (rank < 1 || depth < 0 || depth > MOST_DEPTH || rank == 1 && compared[depth]) {
                return false;
            }
            if (rank == 1) {
                compared[depth] = true;
            }
            release(rank);
            await(sign);
            wantsThing = true;
            return true;
        }

        private boolean closeBracket() {
            if (depth < 1) {
                return false;
            }
            release(1);
            depth--;
            waits = Math.max(waits - 1, 0);
            return true;
        }

        private void await(int sign) {
            if (waits < MOST_OF_RULE) {
                waiting[waits] = sign;
                waits++;
            }
        }

        private void emit(int one) {
            if (size < MOST_OF_RULE) {
                code[size] = one;
                size++;
            }
        }

        /** Emits what waits and binds as strongly as the rank or more; a bracket (rank 0) holds. */
        private void release(int rank) {
            for (int i = waits - 1; i >= 0 && rankOf(waiting[i]) >= rank; i--) {
                emit(SIGNS + waiting[i]);
                waits = i;
            }
        }

        private static int rankOf(int sign) {
            switch (sign) {
                case '<':
                case '>':
                case '=':
                    return 1;
                case '+':
                case '-':
                    return 2;
                case '*':
                case '/':
                    return 3;
                case NEGATION:
                    return 4;
                default:
                    return 0;
            }
        }

        /** RENT of a SQUARE, so many others around it. */
        int rentOf(int square, int near, int kind, int side, int quarter) {
            if (size == 0) {
                return 3 - fromMiddle(square);
            }
            things[0] = square % SIDE_LENGTH;
            things[1] = square / SIDE_LENGTH;
            things[2] = fromMiddle(square);
            things[3] = near;
            things[4] = kind;
            things[5] = side;
            things[6] = quarter % 7;
            return put(worked(), DEAREST);
        }

        private int worked() {
            int top = 0;
            for (int i = 0; i < size && i < MOST_OF_RULE; i++) {
                int one = code[i];
                if (one == SIGNS + NEGATION && top > 0) {
                    values[top - 1] = -values[top - 1];
                } else if (one >= SIGNS && top > 1) {
                    values[top - 2] = bind(one - SIGNS, values[top - 2], values[top - 1]);
                    top--;
                } else if (one < SIGNS && top < MOST_OF_RULE) {
                    values[top] = one < 0 ? thing(-1 - one) : one;
                    top++;
                }
            }
            return values[0];
        }

        private int thing(int i) {
            return i >= 0 && i < things.length ? things[i] : 0;
        }

        private static int bind(int sign, int one, int other) {
            switch (sign) {
                case '<':
                    return one < other ? 1 : 0;
                case '>':
                    return one > other ? 1 : 0;
                case '=':
                    return one == other ? 1 : 0;
                case '+':
                    return one + other;
                case '-':
                    return one - other;
                case '*':
                    return one * other;
                default:
                    return other == 0 ? 0 : one / other;
            }
        }
    }

    /** PIECES, TURN, QUARTER, MOVES: all that undo() and again() bring back. */
    private static final class State {
        final int[] kind = new int[MOST_PIECES];
        final int[] side = new int[MOST_PIECES];
        final int[] place = new int[MOST_PIECES];
        final int[] purse = new int[MOST_PIECES];
        final int[] dues = new int[MOST_PIECES];
        int size;
        int turn;
        int quarter;
        int made;

        void copyFrom(State other) {
            System.arraycopy(other.kind, 0, kind, 0, MOST_PIECES);
            System.arraycopy(other.side, 0, side, 0, MOST_PIECES);
            System.arraycopy(other.place, 0, place, 0, MOST_PIECES);
            System.arraycopy(other.purse, 0, purse, 0, MOST_PIECES);
            size = other.size;
            turn = other.turn;
            quarter = other.quarter;
            made = other.made;
        }

        void add(int newKind, int newSide, int square, int money) {
            if (size < MOST_PIECES) {
                kind[size] = newKind;
                side[size] = newSide;
                place[size] = square;
                purse[size] = money;
                size++;
            }
        }

        boolean has(int piece) {
            return piece >= 0 && piece < size && piece < MOST_PIECES;
        }

        boolean stands(int piece) {
            return has(piece) && place[piece] != OUT;
        }

        boolean isOnTurn(int piece) {
            return stands(piece) && side[piece] == turn;
        }

        int whoStandsOn(int square) {
            for (int i = 0; i < size; i++) {
                if (place[i] == square && square != OUT) {
                    return i;
                }
            }
            return NOBODY;
        }

        int standingPieces() {
            int found = 0;
            for (int i = 0; i < size; i++) {
                found |= stands(i) ? 1 << i : 0;
            }
            return found;
        }

        int standing() {
            return Integer.bitCount(standingPieces());
        }

        int standingOf(int one) {
            return Integer.bitCount(squaresOf(one, NOBODY));
        }

        int pursesOf(int one) {
            int all = 0;
            for (int i = 0; i < size; i++) {
                all += side[i] == one ? purse[i] : 0;
            }
            return all;
        }

        /** SQUARES (bits) on which PIECES of a SIDE stand, one piece aside. */
        int squaresOf(int one, int aside) {
            int found = 0;
            for (int i = 0; i < size; i++) {
                found |= i != aside && side[i] == one ? bitOf(place[i]) : 0;
            }
            return found;
        }

        int others(int piece) {
            int found = 0;
            for (int i = 0; i < size; i++) {
                found |= i != piece ? bitOf(place[i]) : 0;
            }
            return found;
        }

        int reach(int piece) {
            if (!stands(piece)) {
                return 0;
            }
            int mine = side[piece];
            return reachOf(kind[piece], mine, place[piece], squaresOf(mine, piece), squaresOf(1 - mine, piece));
        }

        /** Of a MOVE that can be: by how much the PURSE is more. */
        int move(int piece, int square) {
            int had = purse[piece];
            int evicted = whoStandsOn(square);
            if (has(evicted)) {
                purse[piece] = Math.min(had + purse[evicted], RICHEST);
                evict(evicted);
            }
            place[piece] = square;
            int lastLine = side[piece] == 0 ? SIDE_LENGTH - 1 : 0;
            if (kind[piece] == PAWN && square / SIDE_LENGTH == lastLine) {
                kind[piece] = QUEEN;
            }
            turn = 1 - turn;
            made++;
            return purse[piece] - had;
        }

        private void evict(int piece) {
            place[piece] = OUT;
            purse[piece] = 0;
        }

        int rentAt(Rule rule, int piece, int square, int day) {
            int near = Integer.bitCount(around(square) & others(piece));
            return rule.rentOf(square, near, kind[piece], side[piece], day);
        }

        int due(Rule rule, int piece) {
            return stands(piece) ? rentAt(rule, piece, place[piece], quarter) : 0;
        }

        /** What was paid. */
        int quarterDay(Rule rule) {
            for (int i = 0; i < size; i++) {
                dues[i] = place[i] == OUT ? 0 : rentAt(rule, i, place[i], quarter);
            }
            int paid = 0;
            for (int i = 0; i < size; i++) {
                if (purse[i] >= dues[i]) {
                    purse[i] -= dues[i];
                    paid += dues[i];
                } else {
                    evict(i);
                }
            }
            quarter++;
            return paid;
        }

        /** What was paid in all on n QUARTER DAYS. */
        int live(Rule rule, int n) {
            int paid = 0;
            for (int i = 0; i < n; i++) {
                paid += quarterDay(rule);
            }
            return paid;
        }

        /** WORTH of a SIDE as it would be behind a QUARTER DAY. */
        int worthBehindDay(Rule rule, int one) {
            int worth = 0;
            for (int i = 0; i < size; i++) {
                int due = place[i] == OUT ? 0 : rentAt(rule, i, place[i], quarter);
                int left = purse[i] >= due ? purse[i] - due : 0;
                worth += side[i] == one ? left : -left;
            }
            return worth;
        }
    }

    /** The latest states to which undo() goes back, in a ring. */
    private static final class Past {
        final State[] states = new State[MOST_PAST];
        int first;
        int size;

        Past() {
            for (int i = 0; i < MOST_PAST; i++) {
                states[i] = new State();
            }
        }

        void add(State state) {
            states[(first + size) % MOST_PAST].copyFrom(state);
            if (size < MOST_PAST) {
                size++;
            } else {
                first = (first + 1) % MOST_PAST;
            }
        }

        boolean takeLatest(State into) {
            if (size < 1) {
                return false;
            }
            size--;
            into.copyFrom(states[(first + size) % MOST_PAST]);
            return true;
        }

        void forgetAll() {
            size = 0;
        }
    }

    /** What was heard or seen: pairs of numbers. */
    private static final class Facts {
        final int most;
        final int[] what = new int[MOST_HEARD];
        final int[] value = new int[MOST_HEARD];
        int size;

        Facts(int most) {
            this.most = most;
        }

        int add(int one, int v) {
            if (size >= most || size >= MOST_HEARD) {
                return NONE;
            }
            what[size] = one;
            value[size] = v;
            size++;
            return size;
        }

        int forgetAll() {
            int were = size;
            size = 0;
            return were;
        }
    }

    /** One piece that moves alone. */
    private static final class Walk {
        /** To where from each SQUARE. */
        final int[] routes = new int[SQUARES];
        /** SQUARES from which the goal is so many MOVES away. */
        final int[] levels = new int[SQUARES];
        final int[] counts = new int[SQUARES];
        final int[] nextCounts = new int[SQUARES];
        /** RENTS by day and SQUARE. */
        final int[][] rents = new int[MOST_WANDERS][SQUARES];
        /** The least RENTS from a day on, by day and SQUARE ahead of it. */
        final int[][] rest = new int[MOST_WANDERS + 1][SQUARES];
        int start;
        int free;

        void open(State state, int piece) {
            int side = state.side[piece];
            int own = state.squaresOf(side, piece);
            int foes = state.squaresOf(1 - side, piece);
            start = state.place[piece];
            free = EVERYWHERE & ~(own | foes);
            for (int square = 0; square < SQUARES; square++) {
                routes[square] = reachOf(state.kind[piece], side, square, own, foes);
            }
        }

        /** How many MOVES, or NONE. */
        int fewestTo(int goal) {
            levels[0] = 1 << goal;
            int fresh = free & ~levels[0];
            for (int n = 0; n + 1 < SQUARES && levels[n] != 0; n++) {
                if (holds(levels[n], start)) {
                    return n;
                }
                levels[n + 1] = leadingTo(levels[n]) & fresh;
                fresh &= ~levels[n + 1];
            }
            return NONE;
        }

        private int leadingTo(int goals) {
            int found = 0;
            for (int square = 0; square < SQUARES; square++) {
                found |= (routes[square] & goals) != 0 ? 1 << square : 0;
            }
            return found;
        }

        void tellFewest(int n, Row row) {
            int at = start;
            for (int left = n - 1; left >= 0 && isSquare(at); left--) {
                at = firstOf(routes[at] & levels[left]);
                row.add(at);
            }
        }

        int rowsTo(int goal, int n) {
            Arrays.fill(counts, 0);
            counts[start] = 1;
            for (int i = 1; i <= n; i++) {
                spread(i < n ? free : EVERYWHERE);
            }
            return counts[goal];
        }

        private void spread(int allowed) {
            Arrays.fill(nextCounts, 0);
            for (int from = 0; from < SQUARES; from++) {
                for (int to = 0; to < SQUARES; to++) {
                    nextCounts[to] += holds(routes[from] & allowed, to) ? counts[from] : 0;
                }
            }
            System.arraycopy(nextCounts, 0, counts, 0, SQUARES);
        }

        int leastRents(State state, Rule rule, int piece, int n) {
            Arrays.fill(rest[n], 0);
            for (int day = n - 1; day >= 0; day--) {
                for (int square = 0; square < SQUARES; square++) {
                    rents[day][square] = state.rentAt(rule, piece, square, state.quarter + day);
                }
                for (int square = 0; square < SQUARES; square++) {
                    int to = bestFrom(day, square);
                    rest[day][square] = rents[day][to] + rest[day + 1][to];
                }
            }
            return rest[0][start];
        }

        /** Where to go from a SQUARE ahead of a day. */
        private int bestFrom(int day, int square) {
            int open = routes[square] & free;
            int found = square;
            for (int to = SQUARES - 1; to >= 0; to--) {
                boolean may = to == square || holds(open, to);
                int there = rents[day][to] + rest[day + 1][to];
                int best = rents[day][found] + rest[day + 1][found];
                if (may && (there < best || there == best && to < found)) {
                    found = to;
                }
            }
            return found;
        }

        void tellLeastRents(int n, Row row) {
            int at = start;
            for (int day = 0; day < n; day++) {
                at = bestFrom(day, at);
                row.add(at);
            }
        }
    }

    /** The MOVES that pay best. */
    private static final class Lookahead {
        final State middle = new State();
        final State last = new State();
        int firstMove;
        int lastMove;

        /**
         * WORTH, behind a QUARTER DAY, of the SIDE whose TURN it is, by its best MOVE (left in lastMove; NONE: it has
         * none); a MOVE that brings enough is taken at once.
         */
        int oneMove(State from, Rule rule, int enough) {
            lastMove = NONE;
            int most = -FAR_BEYOND;
            for (int piece = 0; piece < from.size; piece++) {
                int open = from.isOnTurn(piece) ? from.reach(piece) : 0;
                for (int square = 0; square < SQUARES; square++) {
                    if (!holds(open, square)) {
                        continue;
                    }
                    last.copyFrom(from);
                    last.move(piece, square);
                    int worth = last.worthBehindDay(rule, from.turn);
                    if (worth > most) {
                        most = worth;
                        lastMove = 100 * piece + square;
                    }
                    if (most >= enough) {
                        return most;
                    }
                }
            }
            return lastMove < 0 ? from.worthBehindDay(rule, from.turn) : most;
        }

        /** As oneMove(), with the other SIDE's best MOVE behind it (left in lastMove, the own one in firstMove). */
        int twoMoves(State from, Rule rule) {
            firstMove = NONE;
            int answer = NONE;
            int most = -FAR_BEYOND;
            for (int piece = 0; piece < from.size; piece++) {
                int open = from.isOnTurn(piece) ? from.reach(piece) : 0;
                for (int square = 0; square < SQUARES; square++) {
                    if (!holds(open, square)) {
                        continue;
                    }
                    middle.copyFrom(from);
                    middle.move(piece, square);
                    // An answer that makes this MOVE no better than the best one so far is enough to drop it.
                    int worth = -oneMove(middle, rule, -most);
                    if (worth > most) {
                        most = worth;
                        firstMove = 100 * piece + square;
                        answer = lastMove;
                    }
                }
            }
            lastMove = answer;
            return firstMove < 0 ? from.worthBehindDay(rule, from.turn) : most;
        }
    }
}
