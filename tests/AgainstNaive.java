import java.math.BigInteger;
import java.util.ArrayList;
import java.util.Collections;
import java.util.HashMap;
import java.util.List;
import java.util.Map;
import java.util.NoSuchElementException;
import java.util.Random;
import java.util.TreeSet;
import java.util.regex.Matcher;
import java.util.regex.Pattern;

/** Random runs of calls, each answer beside that of a slow model written from the document in other ways. */
public final class AgainstNaive {
    private static final int RUNS = 1500;
    private static final int CALLS_OF_A_RUN = 512;
    private static final String[] CALLS = {
        "sign", "end", "pieces", "rule", "piece", "square", "rent", "sheet", "moves", "quarters", "passes", "gives",
        "wages", "game", "undo", "goes", "threats", "hops", "ways", "owes", "later", "when", "needs", "cheapest",
        "wanders", "stays", "best", "looks", "choices", "heard", "forget", "fits", "asks", "saw", "denies", "laws",
        "sees", "odds", "knights", "rests", "law", "years", "keep", "again", "count", "row",
        "moves", "moves", "moves", "moves", "wages", "gives", "undo"};
    private static final long THROWN = Long.MIN_VALUE;

    private final Random random;
    private final int run;
    private final RentBoard board = new RentBoard();
    private final Naive naive = new Naive();
    private final List<String> log = new ArrayList<>();
    private int calls;
    private int wrong;

    private AgainstNaive(int run) {
        this.run = run;
        random = new Random(7919L * run + 1);
    }

    public static void main(String[] args) {
        int wrong = 0;
        for (int run = 0; run < RUNS && wrong < 5; run++) {
            AgainstNaive one = new AgainstNaive(run);
            one.play();
            wrong += one.wrong;
        }
        System.out.println(wrong == 0 ? RUNS + " runs are as the naive model's" : wrong + " runs differ");
        if (wrong != 0) {
            System.exit(1);
        }
    }

    private void play() {
        int crowd = run % 3 == 0 ? 7 : run % 7 == 0 ? 1 : 2;
        while (calls < CALLS_OF_A_RUN - 100 && wrong == 0) {
            if (calls < 40 && naive.pieces.size() < crowd) {
                put(validLines(crowd == 1 ? 1 : 1 + random.nextInt(4)));
                both("pieces");
            } else if (random.nextInt(6) == 0) {
                readSomething();
            } else {
                String call = CALLS[4 + random.nextInt(CALLS.length - 4)];
                if (!call.equals("pieces") && !call.equals("rule")) {
                    int times = (call.equals("heard") || call.equals("saw")) && random.nextInt(12) == 0 ? 13 : 1;
                    for (int i = 0; i < times; i++) {
                        both(call, argumentsOf(call));
                    }
                }
            }
        }
    }

    /** Puts a text into THE TEXT, by sign() and end(), and has a call read it. */
    private void readSomething() {
        int which = random.nextInt(8);
        String text;
        if (which == 0) {
            text = mangled(validLines(1 + random.nextInt(9)));
        } else if (which < 4) {
            text = random.nextInt(3) == 0 ? mangled(expression(0)) : expression(0);
        } else {
            text = random.nextInt(3) == 0 ? mangled(acts()) : acts();
        }
        put(text);
        if (random.nextInt(40) == 0) {
            both("end", random.nextInt(90) - 3);
        }
        if (which == 0) {
            both("pieces");
        } else if (which < 4) {
            both(which == 1 ? "law" : "rule");
        } else {
            both("game");
        }
    }

    private void put(String text) {
        String all = text.length() > 80 ? text.substring(0, 80) : text;
        if (random.nextInt(60) == 0) {
            overfill();
        }
        for (int i = 0; i < all.length(); i += 4) {
            int v = 0;
            for (int j = i; j < i + 4; j++) {
                v = v << 8 | (j < all.length() ? all.charAt(j) : random.nextInt(256));
            }
            both("sign", v);
        }
        both("end", all.length());
    }

    private void overfill() {
        for (int i = 0; i < 21; i++) {
            both("sign", random.nextInt());
        }
        both("end", 0);
    }

    private String validLines(int n) {
        TreeSet<Integer> taken = new TreeSet<>();
        for (Naive.Piece piece : naive.pieces) {
            taken.add(piece.square);
        }
        StringBuilder text = new StringBuilder();
        for (int i = 0; i < n; i++) {
            int square = random.nextInt(25);
            while (taken.contains(square)) {
                square = random.nextInt(25);
            }
            if (random.nextInt(20) != 0) {
                taken.add(square);
            }
            int purse = random.nextInt(3) == 0 ? random.nextInt(100) : random.nextInt(25);
            text.append(i == 0 ? "" : ";").append("KQRBNPkqrbnp".charAt(random.nextInt(12)))
                .append((char) ('a' + square % 5)).append((char) ('1' + square / 5)).append(purse / 10).append(purse % 10);
        }
        return text.toString();
    }

    private String expression(int depth) {
        StringBuilder text = new StringBuilder(sum(depth));
        if (random.nextInt(4) == 0) {
            text.append("<>=".charAt(random.nextInt(3))).append(sum(depth));
        }
        return text.toString();
    }

    private String sum(int depth) {
        StringBuilder text = new StringBuilder(thing(depth));
        for (int i = random.nextInt(4); i > 0; i--) {
            text.append("+-*/".charAt(random.nextInt(4))).append(thing(depth));
        }
        return text.toString();
    }

    private String thing(int depth) {
        int which = random.nextInt(12);
        if (which == 0) {
            return "-" + thing(depth);
        }
        if (which < 3 && depth < 4) {
            return "(" + expression(depth + 1) + ")";
        }
        if (which < 6) {
            return "" + random.nextInt(random.nextInt(5) == 0 ? 1000 : 12);
        }
        return "" + "xydkqcn".charAt(random.nextInt(7));
    }

    private String acts() {
        StringBuilder text = new StringBuilder();
        for (int i = random.nextInt(random.nextInt(10) == 0 ? 30 : 6); i > 0; i--) {
            switch (random.nextInt(6)) {
                case 0:
                    text.append('n').append(random.nextInt(random.nextInt(4) == 0 ? 10 : 3));
                    break;
                case 1:
                    text.append('/');
                    break;
                case 2:
                    text.append('g').append(random.nextInt(8)).append(random.nextInt(8)).append('0').append(random.nextInt(10));
                    break;
                case 3:
                    text.append('w').append(random.nextInt(2)).append(random.nextInt(10));
                    break;
                default:
                    int[] move = someMove();
                    text.append('m').append(move[0] % 10).append((char) ('a' + move[1] % 5)).append((char) ('1' + move[1] / 5));
            }
        }
        return text.toString();
    }

    private String mangled(String text) {
        StringBuilder all = new StringBuilder(text);
        int at = all.length() == 0 ? 0 : random.nextInt(all.length());
        switch (random.nextInt(5)) {
            case 0:
                all.setLength(at);
                break;
            case 1:
                all.insert(at, "xydkqcn0159();mn/gwKqa<>=+-*~ f6".charAt(random.nextInt(32)));
                break;
            case 2:
                all.insert(at, (char) random.nextInt(256));
                break;
            case 3:
                if (all.length() > 0) {
                    all.deleteCharAt(at);
                }
                break;
            default:
                while (all.length() > 0 && all.length() < 42) {
                    all.append(text);
                }
        }
        return all.toString();
    }

    /** A MOVE that can be, as often as not; else any. */
    private int[] someMove() {
        for (int i = 0; i < 30; i++) {
            int piece = random.nextInt(8);
            int square = random.nextInt(25);
            if (naive.canMove(piece, square)) {
                return new int[] {piece, square};
            }
        }
        return new int[] {random.nextInt(9), random.nextInt(25)};
    }

    private int around(int first, int last) {
        int which = random.nextInt(60);
        if (which == 0) {
            return new int[] {Integer.MIN_VALUE, Integer.MAX_VALUE, -1, 1000}[random.nextInt(4)];
        }
        if (which < 4) {
            return random.nextBoolean() ? first - 1 : last + 1;
        }
        return first + random.nextInt(last - first + 1);
    }

    private int somePiece() {
        return around(0, Math.max(naive.pieces.size() - 1, 0));
    }

    private int[] argumentsOf(String call) {
        switch (call) {
            case "piece":
                return new int[] {somePiece(), around(0, 4)};
            case "square":
                return new int[] {around(0, 24)};
            case "rent":
            case "hops":
                return new int[] {somePiece(), around(0, 24)};
            case "moves":
                return random.nextInt(3) > 0 ? someMove() : new int[] {somePiece(), around(0, 24)};
            case "sheet":
                int wide = random.nextBoolean() ? random.nextInt() : random.nextInt(300);
                return new int[] {random.nextInt(4) == 0 ? around(0, 3) : random.nextInt(3), around(0, 8), wide, random.nextInt(4) == 0 ? random.nextInt() : random.nextInt(9) - 2};
            case "quarters":
                return new int[] {random.nextInt(5) == 0 ? around(0, 60) : around(0, 3)};
            case "gives":
                return new int[] {somePiece(), somePiece(), random.nextInt(4) == 0 ? around(1, 99) : around(1, 9)};
            case "wages":
                return new int[] {around(0, 1), around(1, 9)};
            case "goes":
            case "threats":
            case "when":
            case "cheapest":
                return new int[] {somePiece()};
            case "ways":
                return new int[] {somePiece(), around(0, 24), around(0, 4)};
            case "owes":
                return new int[] {around(0, 1)};
            case "later":
                return new int[] {somePiece(), around(0, 60)};
            case "needs":
            case "stays":
                return new int[] {somePiece(), around(1, 20)};
            case "wanders":
                return new int[] {somePiece(), around(1, 6)};
            case "looks":
                return new int[] {around(0, 2)};
            case "heard":
                return new int[] {around(0, 4), random.nextInt(3) == 0 ? around(0, 9) : around(0, 1)};
            case "saw":
                return new int[] {around(0, 2), random.nextInt(3) == 0 ? around(0, 20) : around(2, 6)};
            case "odds":
                return new int[] {around(0, 1), around(0, 8), around(0, 10)};
            case "knights":
                return new int[] {around(0, 9), around(0, 9)};
            case "rests":
                return new int[] {around(0, 20)};
            case "years":
                return new int[] {random.nextInt(), around(1, 60)};
            case "keep":
            case "again":
                return new int[] {around(0, 1)};
            case "count":
                return new int[] {around(0, 11)};
            case "row":
                return new int[] {around(0, 3)};
            default:
                return new int[0];
        }
    }

    private void both(String call, int... a) {
        log.add(call + java.util.Arrays.toString(a));
        compare(call, call(call, a), naive.call(call, a));
        if (!call.equals("row") && !call.equals("sign") && !call.equals("end")) {
            compareRow();
        }
    }

    private void compareRow() {
        compare("count(10)", call("count", 10), naive.row.size());
        for (int i = 0; i < naive.row.size() && calls < CALLS_OF_A_RUN; i++) {
            compare("row(" + i + ")", call("row", i), naive.row.get(i));
        }
    }

    private void compare(String what, long got, long want) {
        if (got != want && wrong == 0) {
            wrong++;
            System.out.println("run " + run + ": " + what + " answered " + got + ", the naive model " + want);
            System.out.println("  " + naive);
            System.out.println("  " + log.subList(Math.max(log.size() - 25, 0), log.size()));
        }
    }

    private long call(String call, int... a) {
        calls++;
        try {
            return answer(call, a);
        } catch (NoSuchElementException e) {
            return THROWN;
        }
    }

    private long answer(String call, int[] a) {
        switch (call) {
            case "sign": return board.sign(a[0]);
            case "end": return board.end(a[0]) ? 1 : 0;
            case "pieces": return board.pieces();
            case "rule": return board.rule();
            case "piece": return board.piece(a[0], a[1]);
            case "square": return board.square(a[0]);
            case "rent": return board.rent(a[0], a[1]);
            case "sheet": return board.sheet(a[0], a[1], a[2], a[3]);
            case "moves": return board.moves(a[0], a[1]);
            case "quarters": return board.quarters(a[0]);
            case "passes": return board.passes();
            case "gives": return board.gives(a[0], a[1], a[2]);
            case "wages": return board.wages(a[0], a[1]);
            case "game": return board.game();
            case "undo": return board.undo();
            case "goes": return board.goes(a[0]);
            case "threats": return board.threats(a[0]);
            case "hops": return board.hops(a[0], a[1]);
            case "ways": return board.ways(a[0], a[1], a[2]);
            case "owes": return board.owes(a[0]);
            case "later": return board.later(a[0], a[1]);
            case "when": return board.when(a[0]);
            case "needs": return board.needs(a[0], a[1]);
            case "cheapest": return board.cheapest(a[0]);
            case "wanders": return board.wanders(a[0], a[1]);
            case "stays": return board.stays(a[0], a[1]);
            case "best": return board.best();
            case "looks": return board.looks(a[0]);
            case "choices": return board.choices();
            case "heard": return board.heard(a[0], a[1]);
            case "forget": return board.forget();
            case "fits": return board.fits();
            case "asks": return board.asks();
            case "saw": return board.saw(a[0], a[1]);
            case "denies": return board.denies();
            case "laws": return board.laws();
            case "sees": return board.sees();
            case "odds": return board.odds(a[0], a[1], a[2]);
            case "knights": return board.knights(a[0], a[1]);
            case "rests": return board.rests(a[0]);
            case "law": return board.law();
            case "years": return board.years(a[0], a[1]);
            case "keep": return board.keep(a[0]) ? 1 : 0;
            case "again": return board.again(a[0]) ? 1 : 0;
            case "count": return board.count(a[0]);
            case "row": return board.row(a[0]);
            default: throw new IllegalStateException(call);
        }
    }

    /** The document, plainly. */
    private static final class Naive {
        static final class Piece {
            int kind;
            int side;
            int square;
            int purse;

            Piece(int kind, int side, int square, int purse) {
                this.kind = kind;
                this.side = side;
                this.square = square;
                this.purse = purse;
            }

            Piece copy() {
                return new Piece(kind, side, square, purse);
            }

            boolean out() {
                return square == 25;
            }
        }

        static final class Snapshot {
            final List<Piece> pieces;
            final int turn;
            final int quarter;
            final int moves;

            Snapshot(Naive of) {
                pieces = copyOf(of.pieces);
                turn = of.turn;
                quarter = of.quarter;
                moves = of.moves;
            }
        }

        List<Piece> pieces = new ArrayList<>();
        int turn;
        int quarter;
        int moves;
        String rule = "";
        String text = "";
        List<Long> row = new ArrayList<>();
        List<Snapshot> past = new ArrayList<>();
        final Snapshot[] kept = new Snapshot[2];
        final List<int[]> heard = new ArrayList<>();
        final List<int[]> seen = new ArrayList<>();

        static List<Piece> copyOf(List<Piece> list) {
            List<Piece> all = new ArrayList<>();
            for (Piece piece : list) {
                all.add(piece.copy());
            }
            return all;
        }

        /** For questions about what would be. */
        Naive fork() {
            Naive other = new Naive();
            other.pieces = copyOf(pieces);
            other.turn = turn;
            other.quarter = quarter;
            other.moves = moves;
            other.rule = rule;
            return other;
        }

        void restore(Snapshot from) {
            pieces = copyOf(from.pieces);
            turn = from.turn;
            quarter = from.quarter;
            moves = from.moves;
        }

        void tell(long... numbers) {
            row = new ArrayList<>();
            for (long number : numbers) {
                row.add(number);
            }
        }

        void remember(Snapshot was) {
            past.add(was);
            if (past.size() > 12) {
                past.remove(0);
            }
        }

        @Override
        public String toString() {
            StringBuilder all = new StringBuilder("rule \"" + rule + "\" turn " + turn + " quarter " + quarter + " moves " + moves);
            for (Piece p : pieces) {
                all.append(" ").append("KQRBNPkqrbnp".charAt(p.kind + 6 * p.side)).append(p.square).append("$").append(p.purse);
            }
            return all.append(" text \"").append(text).append("\"").toString();
        }

        boolean none(int piece) {
            return piece < 0 || piece >= pieces.size();
        }

        static boolean offBoard(int square) {
            return square < 0 || square > 24;
        }

        static boolean outside(int v, int first, int last) {
            return v < first || v > last;
        }

        Piece standingOn(int square, Piece aside) {
            for (Piece p : pieces) {
                if (p != aside && !p.out() && p.square == square) {
                    return p;
                }
            }
            return null;
        }

        /** CAN GO, by the shape of the way and what stands between, for a piece as if it stood on from. */
        boolean canGo(Piece p, int from, int to) {
            if (from == to || from == 25) {
                return false;
            }
            Piece there = standingOn(to, p);
            if (there != null && there.side == p.side) {
                return false;
            }
            int dx = to % 5 - from % 5;
            int dy = to / 5 - from / 5;
            int ax = Math.abs(dx);
            int ay = Math.abs(dy);
            boolean straight = dx == 0 || dy == 0;
            boolean slant = ax == ay;
            switch (p.kind) {
                case 0:
                    return ax <= 1 && ay <= 1;
                case 1:
                    return (straight || slant) && clear(p, from, to);
                case 2:
                    return straight && clear(p, from, to);
                case 3:
                    return slant && clear(p, from, to);
                case 4:
                    return ax * ay == 2;
                default:
                    int up = p.side == 0 ? 1 : -1;
                    return dy == up && (dx == 0 ? there == null : ax == 1 && there != null);
            }
        }

        boolean clear(Piece p, int from, int to) {
            int dx = Integer.signum(to % 5 - from % 5);
            int dy = Integer.signum(to / 5 - from / 5);
            for (int at = from + dx + 5 * dy; at != to; at += dx + 5 * dy) {
                if (standingOn(at, p) != null) {
                    return false;
                }
            }
            return true;
        }

        List<Integer> targets(Piece p, int from) {
            List<Integer> all = new ArrayList<>();
            for (int to = 0; to < 25; to++) {
                if (canGo(p, from, to)) {
                    all.add(to);
                }
            }
            return all;
        }

        boolean canMove(int piece, int square) {
            return !none(piece) && !offBoard(square) && pieces.get(piece).side == turn
                && canGo(pieces.get(piece), pieces.get(piece).square, square);
        }

        int rent(String byRule, Piece p, int square, int day) {
            int near = 0;
            for (Piece other : pieces) {
                if (other != p && !other.out() && other.square != square
                    && Math.abs(other.square % 5 - square % 5) <= 1 && Math.abs(other.square / 5 - square / 5) <= 1) {
                    near++;
                }
            }
            int x = square % 5;
            int y = square / 5;
            int d = Math.max(Math.abs(x - 2), Math.abs(y - 2));
            int[] things = {x, y, d, near, p.kind, p.side, day % 7};
            int value = new Expression(byRule.isEmpty() ? "3-d" : byRule, things).value();
            return Math.max(0, Math.min(20, value));
        }

        int rentNow(Piece p) {
            return p.out() ? 0 : rent(rule, p, p.square, quarter);
        }

        /** What was paid. */
        int quarterDay(String byRule) {
            List<Integer> dues = new ArrayList<>();
            for (Piece p : pieces) {
                dues.add(p.out() ? 0 : rent(byRule, p, p.square, quarter));
            }
            int paid = 0;
            for (int i = 0; i < pieces.size(); i++) {
                Piece p = pieces.get(i);
                if (p.out()) {
                    continue;
                }
                if (p.purse >= dues.get(i)) {
                    p.purse -= dues.get(i);
                    paid += dues.get(i);
                } else {
                    p.square = 25;
                    p.purse = 0;
                }
            }
            quarter++;
            return paid;
        }

        void makeMove(int piece, int square) {
            Piece p = pieces.get(piece);
            Piece there = standingOn(square, p);
            if (there != null) {
                p.purse = Math.min(99, p.purse + there.purse);
                there.purse = 0;
                there.square = 25;
            }
            p.square = square;
            if (p.kind == 5 && square / 5 == (p.side == 0 ? 4 : 0)) {
                p.kind = 1;
            }
            turn = 1 - turn;
            moves++;
        }

        int standing() {
            int n = 0;
            for (Piece p : pieces) {
                n += p.out() ? 0 : 1;
            }
            return n;
        }

        int purses(int side) {
            int n = 0;
            for (Piece p : pieces) {
                n += p.side == side ? p.purse : 0;
            }
            return n;
        }

        int worth(int side) {
            return purses(side) - purses(1 - side);
        }

        long call(String call, int[] a) {
            switch (call) {
                case "sign":
                    if (text.length() + 4 > 80) {
                        return -1;
                    }
                    for (int shift = 24; shift >= 0; shift -= 8) {
                        text += (char) (a[0] >> shift & 255);
                    }
                    return text.length();
                case "end":
                    if (a[0] < 0 || a[0] > text.length()) {
                        return 0;
                    }
                    text = text.substring(0, a[0]);
                    return 1;
                case "pieces":
                case "rule":
                case "law":
                case "game":
                    String read = text;
                    text = "";
                    return call.equals("pieces") ? readPieces(read) : call.equals("game") ? playGame(read)
                        : call.equals("rule") ? setRule(read) : otherRule(read);
                case "moves":
                case "quarters":
                case "passes":
                case "gives":
                case "wages":
                    Snapshot was = new Snapshot(this);
                    long got = act(call, a);
                    if (got >= 0) {
                        remember(was);
                    }
                    return got;
                case "undo":
                    if (past.isEmpty()) {
                        return -1;
                    }
                    restore(past.remove(past.size() - 1));
                    return past.size();
                case "keep":
                    if (outside(a[0], 0, 1)) {
                        return 0;
                    }
                    kept[a[0]] = new Snapshot(this);
                    return 1;
                case "again":
                    if (outside(a[0], 0, 1) || kept[a[0]] == null || kept[a[0]].pieces.size() != pieces.size()) {
                        return 0;
                    }
                    restore(kept[a[0]]);
                    past.clear();
                    return 1;
                case "piece":
                case "square":
                case "rent":
                case "count":
                case "row":
                case "sheet":
                    return simple(call, a);
                default:
                    return question(call, a);
            }
        }

        long simple(String call, int[] a) {
            switch (call) {
                case "piece":
                    if (none(a[0]) || outside(a[1], 0, 4)) {
                        return THROWN;
                    }
                    Piece p = pieces.get(a[0]);
                    return new int[] {p.kind, p.side, p.square, p.purse, rentNow(p)}[a[1]];
                case "square":
                    return offBoard(a[0]) ? THROWN : standingOn(a[0], null) == null ? 8 : pieces.indexOf(standingOn(a[0], null));
                case "rent":
                    return none(a[0]) || offBoard(a[1]) || pieces.get(a[0]).out() ? THROWN
                        : rent(rule, pieces.get(a[0]), a[1], quarter);
                case "sheet":
                    return sheet(a[0], a[1], a[2], a[3]);
                case "row":
                    return a[0] < 0 || a[0] >= row.size() ? THROWN : row.get(a[0]);
                default:
                    int bits = 0;
                    for (int i = 0; i < pieces.size(); i++) {
                        bits += pieces.get(i).out() ? 0 : 1 << i;
                    }
                    int[] all = {pieces.size(), bits, turn, quarter, moves, purses(0), purses(1), heard.size(), seen.size(),
                        past.size(), row.size(), text.length()};
                    return outside(a[0], 0, 11) ? -1 : all[a[0]];
            }
        }

        long sheet(int kind, int n, int f, int step) {
            if (kind < 0 || kind > 3 || n > 8) {
                return -1;
            }
            if (kind != 3 && n < 0) {
                return -2;
            }
            List<Integer> entries = new ArrayList<>();
            int at = f;
            for (int i = 0; kind != 3 && i < n; i++) {
                int v = kind == 0 ? (byte) at : kind == 1 ? (short) at : at;
                entries.add(Math.max(0, Math.min(99, v)));
                at += step;
            }
            long sum = 0;
            for (int i = 0; i < pieces.size(); i++) {
                Piece p = pieces.get(i);
                p.purse = i < entries.size() && !p.out() ? entries.get(i) : 0;
                sum += p.purse;
            }
            return kind == 3 ? -3 : sum;
        }

        long act(String call, int[] a) {
            switch (call) {
                case "moves":
                    if (none(a[0]) || offBoard(a[1])) {
                        return -1;
                    }
                    Piece p = pieces.get(a[0]);
                    if (p.out() || p.side != turn) {
                        return -2;
                    }
                    if (!canGo(p, p.square, a[1])) {
                        return -3;
                    }
                    int had = p.purse;
                    makeMove(a[0], a[1]);
                    tell(p.purse, p.kind);
                    return p.purse - had;
                case "quarters":
                    if (outside(a[0], 0, 60)) {
                        return -1;
                    }
                    int stood = standing();
                    int paid = 0;
                    for (int i = 0; i < a[0]; i++) {
                        paid += quarterDay(rule);
                    }
                    tell(paid);
                    return stood - standing();
                case "passes":
                    turn = 1 - turn;
                    return turn;
                case "gives":
                    if (none(a[0]) || none(a[1]) || a[0] == a[1] || outside(a[2], 1, 99)) {
                        return -1;
                    }
                    Piece one = pieces.get(a[0]);
                    Piece other = pieces.get(a[1]);
                    if (one.out() || other.out()) {
                        return -2;
                    }
                    if (one.purse < a[2]) {
                        return -3;
                    }
                    if (other.purse + a[2] > 99) {
                        return -4;
                    }
                    one.purse -= a[2];
                    other.purse += a[2];
                    return one.purse;
                default:
                    if (outside(a[0], 0, 1) || outside(a[1], 1, 9)) {
                        return -1;
                    }
                    int n = 0;
                    for (Piece each : pieces) {
                        if (!each.out() && each.side == a[0]) {
                            each.purse = Math.min(99, each.purse + a[1]);
                            n++;
                        }
                    }
                    return n;
            }
        }

        /** The first sign that can't stand by a pattern without a bound, or the limit, or -1. */
        static int faultBy(Pattern pattern, String read, int most) {
            for (int p = 0; p < read.length(); p++) {
                if (p >= most) {
                    return most;
                }
                Matcher matcher = pattern.matcher(read.substring(0, p + 1));
                if (!matcher.matches() && !matcher.hitEnd()) {
                    return p;
                }
            }
            return pattern.matcher(read).matches() ? -1 : read.length();
        }

        static final String LINE = "[KQRBNPkqrbnp][a-e][1-5][0-9][0-9]";
        static final Pattern LINES = Pattern.compile(LINE + "(;" + LINE + ")*", Pattern.DOTALL);
        static final Pattern ACTS = Pattern.compile("(m[0-9][a-e][1-5]|n[0-9]|/|g[0-9]{4}|w[0-9][0-9])*", Pattern.DOTALL);

        long readPieces(String read) {
            if (read.isEmpty()) {
                return 0;
            }
            int fault = faultBy(LINES, read, 47);
            TreeSet<Integer> faults = new TreeSet<>();
            if (fault >= 0) {
                faults.add(fault);
            }
            TreeSet<Integer> taken = new TreeSet<>();
            for (Piece p : pieces) {
                taken.add(p.square);
            }
            taken.remove(25);
            List<Piece> came = new ArrayList<>();
            for (int at = 0; at <= read.length(); at += 6) {
                if (pieces.size() + came.size() == 8 && at < read.length()) {
                    faults.add(at);
                    break;
                }
                if (at + 5 > read.length() || !read.substring(at, at + 5).matches(LINE)) {
                    if (at + 3 <= read.length() && read.substring(at, at + 3).matches("[KQRBNPkqrbnp][a-e][1-5]")
                        && taken.contains(5 * (read.charAt(at + 2) - '1') + read.charAt(at + 1) - 'a')) {
                        faults.add(at + 1);
                    }
                    break;
                }
                int letter = "KQRBNPkqrbnp".indexOf(read.charAt(at));
                int square = 5 * (read.charAt(at + 2) - '1') + read.charAt(at + 1) - 'a';
                if (!taken.add(square)) {
                    faults.add(at + 1);
                    break;
                }
                came.add(new Piece(letter % 6, letter / 6, square, Integer.parseInt(read.substring(at + 3, at + 5))));
                if (at + 5 >= read.length() || read.charAt(at + 5) != ';') {
                    break;
                }
            }
            if (!faults.isEmpty()) {
                return -1 - faults.first();
            }
            pieces.addAll(came);
            past.clear();
            return came.size();
        }

        static int faultOfRule(String read) {
            return read.isEmpty() ? -1 : new Expression(read, new int[7]).fault(40);
        }

        long setRule(String read) {
            int fault = faultOfRule(read);
            if (fault >= 0) {
                return -1 - fault;
            }
            rule = read;
            return 0;
        }

        long otherRule(String read) {
            int fault = faultOfRule(read);
            if (fault >= 0) {
                return -10000 - fault;
            }
            int[] standing = new int[2];
            int[] paid = new int[2];
            for (int i = 0; i < 2; i++) {
                Naive other = fork();
                for (int day = 0; day < 8; day++) {
                    paid[i] += other.quarterDay(i == 0 ? read : rule);
                }
                standing[i] = other.standing();
            }
            tell(standing[0], standing[1], paid[0], paid[1]);
            return standing[0] - standing[1];
        }

        long playGame(String read) {
            int fault = faultBy(ACTS, read, 60);
            if (fault >= 0) {
                return -1 - fault;
            }
            Snapshot was = new Snapshot(this);
            List<Long> stays = row;
            int done = 0;
            boolean stopped = false;
            Matcher each = Pattern.compile("m...|n.|/|g....|w..").matcher(read);
            while (!stopped && each.find()) {
                String one = each.group();
                int[] digits = one.chars().map(c -> c - '0').toArray();
                long got;
                switch (one.charAt(0)) {
                    case 'm':
                        got = act("moves", new int[] {digits[1], 5 * (one.charAt(3) - '1') + one.charAt(2) - 'a'});
                        break;
                    case 'n':
                        got = act("quarters", new int[] {digits[1]});
                        break;
                    case '/':
                        got = act("passes", new int[0]);
                        break;
                    case 'g':
                        got = act("gives", new int[] {digits[1], digits[2], 10 * digits[3] + digits[4]});
                        break;
                    default:
                        got = act("wages", new int[] {digits[1], digits[2]});
                }
                stopped = got < 0;
                done += stopped ? 0 : 1;
            }
            if (done > 0) {
                remember(was);
            }
            row = stays;
            tell(stopped ? 1 : 0, standing());
            return done;
        }

        long question(String call, int[] a) {
            switch (call) {
                case "owes":
                    if (outside(a[0], 0, 1)) {
                        return -1;
                    }
                    long owed = 0;
                    long poor = 0;
                    for (int i = 0; i < pieces.size(); i++) {
                        Piece p = pieces.get(i);
                        if (p.side == a[0] && !p.out()) {
                            owed += rentNow(p);
                            poor += p.purse < rentNow(p) ? 1L << i : 0;
                        }
                    }
                    tell(purses(a[0]), poor);
                    return owed;
                case "best":
                case "looks":
                case "choices":
                    return search(call, a);
                case "heard":
                case "forget":
                case "fits":
                case "asks":
                    return rumours(call, a);
                case "saw":
                case "denies":
                case "laws":
                case "sees":
                    return laws(call, a);
                case "odds":
                    return odds(a[0], a[1], a[2]);
                case "knights":
                    return knights(a[0], a[1]);
                case "rests":
                    return rests(a[0]);
                case "years":
                    return years(a[0], a[1]);
                default:
                    return ofOne(call, a);
            }
        }

        long ofOne(String call, int[] a) {
            boolean bad = none(a[0]);
            switch (call) {
                case "hops":
                    bad |= offBoard(a[1]);
                    break;
                case "ways":
                    bad |= offBoard(a[1]) || outside(a[2], 0, 4);
                    break;
                case "later":
                    bad |= outside(a[1], 0, 60);
                    break;
                case "needs":
                case "stays":
                    bad |= outside(a[1], 1, 20);
                    break;
                case "wanders":
                    bad |= outside(a[1], 1, 6);
                    break;
                default:
            }
            if (bad) {
                return -1;
            }
            Piece p = pieces.get(a[0]);
            if (p.out()) {
                return call.equals("when") || call.equals("needs") ? -3 : -2;
            }
            switch (call) {
                case "goes":
                    long bits = 0;
                    int foes = 0;
                    for (int to : targets(p, p.square)) {
                        bits += 1L << to;
                        foes += standingOn(to, p) == null ? 0 : 1;
                    }
                    tell(Long.bitCount(bits), foes);
                    return bits;
                case "threats":
                    long found = 0;
                    for (int i = 0; i < pieces.size(); i++) {
                        Piece other = pieces.get(i);
                        found += other.side != p.side && !other.out() && canGo(other, other.square, p.square) ? 1L << i : 0;
                    }
                    tell(Long.bitCount(found));
                    return found;
                case "hops":
                    return hops(p, a[1]);
                case "ways":
                    return ways(p, p.square, a[1], a[2]);
                case "later":
                    Naive then = fork();
                    for (int i = 0; i < a[1]; i++) {
                        then.quarterDay(rule);
                    }
                    tell(then.simple("count", new int[] {1}), then.purses(0) + then.purses(1));
                    return then.pieces.get(a[0]).out() ? 100 : then.pieces.get(a[0]).purse;
                case "when":
                    Naive until = fork();
                    for (int day = 1; day <= 60; day++) {
                        int stood = until.standing();
                        until.quarterDay(rule);
                        if (until.pieces.get(a[0]).out()) {
                            tell(stood - until.standing());
                            return day;
                        }
                    }
                    return -2;
                case "needs":
                    for (int purse = 0; purse <= 99; purse++) {
                        Naive with = fork();
                        with.pieces.get(a[0]).purse = purse;
                        for (int day = 0; day < a[1]; day++) {
                            with.quarterDay(rule);
                        }
                        if (!with.pieces.get(a[0]).out()) {
                            return purse;
                        }
                    }
                    return -2;
                case "cheapest":
                    TreeSet<Integer> open = new TreeSet<>();
                    open.add(p.square);
                    for (int to : targets(p, p.square)) {
                        if (standingOn(to, p) == null) {
                            open.add(to);
                        }
                    }
                    int best = -1;
                    for (int to : open) {
                        if (best < 0 || rent(rule, p, to, quarter) < rent(rule, p, best, quarter)) {
                            best = to;
                        }
                    }
                    tell(rent(rule, p, best, quarter), rentNow(p));
                    return best;
                case "wanders":
                    return wanders(p, a[1]);
                case "stays":
                    long squares = 0;
                    for (int square = 0; square < 25; square++) {
                        int money = standingOn(square, p) != null ? -1 : p.purse;
                        for (int day = 0; day < a[1] && money >= 0; day++) {
                            money -= rent(rule, p, square, quarter + day);
                        }
                        squares += money >= 0 ? 1L << square : 0;
                    }
                    tell(Long.bitCount(squares));
                    return squares;
                default:
                    throw new IllegalStateException(call);
            }
        }

        static int compareRows(List<Integer> one, List<Integer> other) {
            for (int i = 0; i < one.size(); i++) {
                int c = Integer.compare(one.get(i), other.get(i));
                if (c != 0) {
                    return c;
                }
            }
            return 0;
        }

        static List<Integer> longer(List<Integer> one, int square) {
            List<Integer> all = new ArrayList<>(one);
            all.add(square);
            return all;
        }

        /** Forward, level by level, with the least row to each SQUARE. */
        long hops(Piece p, int goal) {
            Map<Integer, List<Integer>> level = new HashMap<>();
            level.put(p.square, new ArrayList<>());
            TreeSet<Integer> known = new TreeSet<>();
            for (int n = 0; n < 26 && !level.isEmpty(); n++) {
                if (level.containsKey(goal)) {
                    row = new ArrayList<>();
                    for (int square : level.get(goal)) {
                        row.add((long) square);
                    }
                    return n;
                }
                known.addAll(level.keySet());
                Map<Integer, List<Integer>> next = new HashMap<>();
                for (int from : level.keySet()) {
                    if (standingOn(from, p) != null) {
                        continue;
                    }
                    for (int to : targets(p, from)) {
                        List<Integer> way = longer(level.get(from), to);
                        if (!known.contains(to) && (!next.containsKey(to) || compareRows(way, next.get(to)) < 0)) {
                            next.put(to, way);
                        }
                    }
                }
                level = next;
            }
            return -2;
        }

        long ways(Piece p, int from, int goal, int n) {
            if (n == 0) {
                return from == goal ? 1 : 0;
            }
            if (standingOn(from, p) != null) {
                return 0;
            }
            if (n == 1) {
                return canGo(p, from, goal) ? 1 : 0;
            }
            long all = 0;
            for (int to : targets(p, from)) {
                all += ways(p, to, goal, n - 1);
            }
            return all;
        }

        /** Forward, with the cheapest and of these the least row to each SQUARE. */
        long wanders(Piece p, int n) {
            Map<Integer, List<Integer>> rows = new HashMap<>();
            Map<Integer, Integer> costs = new HashMap<>();
            rows.put(p.square, new ArrayList<>());
            costs.put(p.square, 0);
            for (int day = 0; day < n; day++) {
                Map<Integer, List<Integer>> nextRows = new HashMap<>();
                Map<Integer, Integer> nextCosts = new HashMap<>();
                for (int from : rows.keySet()) {
                    List<Integer> open = targets(p, from);
                    open.add(from);
                    for (int to : open) {
                        if (standingOn(to, p) != null) {
                            continue;
                        }
                        int cost = costs.get(from) + rent(rule, p, to, quarter + day);
                        List<Integer> way = longer(rows.get(from), to);
                        if (!nextRows.containsKey(to) || cost < nextCosts.get(to)
                            || cost == nextCosts.get(to) && compareRows(way, nextRows.get(to)) < 0) {
                            nextRows.put(to, way);
                            nextCosts.put(to, cost);
                        }
                    }
                }
                rows = nextRows;
                costs = nextCosts;
            }
            int least = Collections.min(costs.values());
            List<Integer> best = null;
            for (int square : rows.keySet()) {
                if (costs.get(square) == least && (best == null || compareRows(rows.get(square), best) < 0)) {
                    best = rows.get(square);
                }
            }
            row = new ArrayList<>();
            for (int square : best) {
                row.add((long) square);
            }
            return least;
        }

        List<int[]> allMoves() {
            List<int[]> all = new ArrayList<>();
            for (int piece = 0; piece < pieces.size(); piece++) {
                for (int square = 0; square < 25; square++) {
                    if (canMove(piece, square)) {
                        all.add(new int[] {piece, square});
                    }
                }
            }
            return all;
        }

        /** The best line of n MOVES for the SIDE whose TURN it is; worth told for it at the end. */
        int bestLine(int n, List<Integer> line) {
            List<int[]> all = n == 0 ? new ArrayList<>() : allMoves();
            if (all.isEmpty()) {
                Naive then = fork();
                then.quarterDay(rule);
                return then.worth(turn);
            }
            int most = Integer.MIN_VALUE;
            List<Integer> best = null;
            for (int[] move : all) {
                Naive then = fork();
                then.makeMove(move[0], move[1]);
                List<Integer> behind = new ArrayList<>();
                int worth = -then.bestLine(n - 1, behind);
                if (worth > most) {
                    most = worth;
                    best = behind;
                    best.add(0, 100 * move[0] + move[1]);
                }
            }
            line.addAll(best);
            return most;
        }

        long search(String call, int[] a) {
            List<Integer> line = new ArrayList<>();
            if (call.equals("choices")) {
                TreeSet<Integer> movers = new TreeSet<>();
                int captures = 0;
                for (int[] move : allMoves()) {
                    movers.add(move[0]);
                    captures += standingOn(move[1], null) == null ? 0 : 1;
                }
                tell(movers.size(), captures);
                return allMoves().size();
            }
            if (call.equals("best")) {
                int worth = bestLine(1, line);
                if (line.isEmpty()) {
                    return -2;
                }
                tell(1000 + worth);
                return line.get(0);
            }
            if (outside(a[0], 0, 2)) {
                return -1;
            }
            int worth = bestLine(a[0], line);
            row = new ArrayList<>();
            for (int move : line) {
                row.add((long) move);
            }
            return 1000 + worth;
        }

        boolean isSo(Piece p, int what, int v) {
            int d = Math.max(Math.abs(p.square % 5 - 2), Math.abs(p.square / 5 - 2));
            return what == 0 ? p.kind == v : what == 1 ? p.side == v : what == 2 ? p.purse / 10 >= v
                : what == 3 ? d == v : targets(p, p.square).size() >= v;
        }

        List<Piece> fitting() {
            List<Piece> all = new ArrayList<>();
            for (Piece p : pieces) {
                boolean fits = !p.out();
                for (int[] fact : heard) {
                    fits = fits && isSo(p, fact[0], fact[1]);
                }
                if (fits) {
                    all.add(p);
                }
            }
            return all;
        }

        static final int[] MOST = {5, 1, 9, 2, 9};

        long rumours(String call, int[] a) {
            switch (call) {
                case "heard":
                    if (outside(a[0], 0, 4) || outside(a[1], 0, MOST[a[0]]) || heard.size() == 12) {
                        return -1;
                    }
                    heard.add(a);
                    return heard.size();
                case "forget":
                    int n = heard.size();
                    heard.clear();
                    return n;
                case "fits":
                    long bits = 0;
                    for (Piece p : fitting()) {
                        bits += 1L << pieces.indexOf(p);
                    }
                    tell(Long.bitCount(bits));
                    return bits;
                default:
                    List<Piece> all = fitting();
                    if (all.isEmpty()) {
                        return -2;
                    }
                    int least = 100;
                    int best = -1;
                    for (int what = 0; what < 5; what++) {
                        for (int v = 0; v <= MOST[what]; v++) {
                            int so = 0;
                            for (Piece p : all) {
                                so += isSo(p, what, v) ? 1 : 0;
                            }
                            if (Math.max(so, all.size() - so) < least) {
                                least = Math.max(so, all.size() - so);
                                best = 10 * what + v;
                            }
                        }
                    }
                    tell(least);
                    return best;
            }
        }

        List<int[]> fittingLaws() {
            List<int[]> all = new ArrayList<>();
            for (int a = 0; a <= 6; a++) {
                for (int b = 0; b <= 6; b++) {
                    boolean fits = true;
                    for (int[] sight : seen) {
                        fits = fits && (2 - sight[0]) * a + b == sight[1];
                    }
                    if (fits) {
                        all.add(new int[] {a, b});
                    }
                }
            }
            return all;
        }

        long laws(String call, int[] a) {
            List<int[]> all = fittingLaws();
            switch (call) {
                case "saw":
                    if (outside(a[0], 0, 2) || outside(a[1], 0, 20) || seen.size() == 10) {
                        return -1;
                    }
                    seen.add(a);
                    return seen.size();
                case "denies":
                    int n = seen.size();
                    seen.clear();
                    return n;
                case "laws":
                    if (all.isEmpty()) {
                        tell();
                    } else {
                        tell(all.get(0)[0], all.get(0)[1]);
                    }
                    return all.size();
                default:
                    if (all.isEmpty()) {
                        return -2;
                    }
                    int best = -1;
                    int least = 100;
                    for (int d = 0; d < 3; d++) {
                        Map<Integer, Integer> groups = new HashMap<>();
                        for (int[] law : all) {
                            groups.merge((2 - d) * law[0] + law[1], 1, Integer::sum);
                        }
                        if (Collections.max(groups.values()) < least) {
                            least = Collections.max(groups.values());
                            best = d;
                        }
                    }
                    tell(least);
                    return best;
            }
        }

        /** Every way in which they stay or go, one by one. */
        long odds(int side, int k, int p) {
            if (outside(side, 0, 1) || outside(k, 0, 8) || outside(p, 0, 10)) {
                return -1;
            }
            int n = 0;
            for (Piece piece : pieces) {
                n += piece.side == side && !piece.out() ? 1 : 0;
            }
            BigInteger upper = BigInteger.ZERO;
            for (int who = 0; who < 1 << n; who++) {
                if (Integer.bitCount(who) >= k) {
                    BigInteger chance = BigInteger.ONE;
                    for (int i = 0; i < n; i++) {
                        chance = chance.multiply(BigInteger.valueOf((who >> i & 1) == 1 ? 10 - p : p));
                    }
                    upper = upper.add(chance);
                }
            }
            BigInteger lower = BigInteger.TEN.pow(n);
            BigInteger common = upper.gcd(lower);
            tell(upper.divide(common).longValueExact(), lower.divide(common).longValueExact());
            return 0;
        }

        static final Map<Integer, Boolean> WON = new HashMap<>();

        static int[] winning(int x, int y) {
            int[] best = null;
            for (int[] step : new int[][] {{-2, 1}, {-2, -1}, {1, -2}, {-1, -2}}) {
                int cx = x + step[0];
                int cy = y + step[1];
                if (cx < 0 || cy < 0) {
                    continue;
                }
                if (!WON.containsKey(100 * cx + cy)) {
                    WON.put(100 * cx + cy, winning(cx, cy) != null);
                }
                if (!WON.get(100 * cx + cy) && (best == null || cx < best[0] || cx == best[0] && cy < best[1])) {
                    best = new int[] {cx, cy};
                }
            }
            return best;
        }

        long knights(int x, int y) {
            if (outside(x, 0, 9) || outside(y, 0, 9)) {
                return -1;
            }
            int[] best = winning(x, y);
            if (best == null) {
                tell();
                return 0;
            }
            tell(best[0], best[1]);
            return 1;
        }

        static int gain(int v, int one, int other) {
            int come = Math.max(0, v - 2 * one);
            return one * (one < other ? come : one == other ? come / 2 : come / 3);
        }

        long rests(int v) {
            if (outside(v, 0, 20)) {
                return -1;
            }
            tell();
            int n = 0;
            for (int x = 0; x < 10; x++) {
                for (int y = 0; y < 10; y++) {
                    int most = 0;
                    int otherMost = 0;
                    for (int z = 0; z < 10; z++) {
                        most = Math.max(most, gain(v, z, y));
                        otherMost = Math.max(otherMost, gain(v, z, x));
                    }
                    if (gain(v, x, y) == most && gain(v, y, x) == otherMost) {
                        if (n++ == 0) {
                            tell(x, y);
                        }
                    }
                }
            }
            return n;
        }

        long years(int seed, int n) {
            if (outside(n, 1, 60)) {
                return -1;
            }
            Naive then = fork();
            int[] r = {seed};
            for (int i = 0; i < n; i++) {
                if (draw(r, 4) == 3) {
                    then.quarterDay(rule);
                } else if (!pieces.isEmpty()) {
                    int piece = draw(r, pieces.size());
                    int square = draw(r, 25);
                    if (then.canMove(piece, square)) {
                        then.makeMove(piece, square);
                    }
                }
            }
            tell(then.purses(0) + then.purses(1), then.moves - moves);
            return then.standing();
        }

        static int draw(int[] r, int n) {
            r[0] = (int) (r[0] * 1103515245L + 12345L);
            return (int) ((r[0] & 0xFFFFFFFFL) / 65536 % n);
        }
    }

    /** An EXPRESSION, worked out while it is read, by one function for each strength. */
    private static final class Expression {
        private static final class Fault extends RuntimeException {
            final int at;

            Fault(int at) {
                this.at = at;
            }
        }

        final String text;
        final int[] things;
        int p;

        Expression(String text, int[] things) {
            this.text = text;
            this.things = things;
        }

        int value() {
            p = 0;
            return comparison(0);
        }

        int fault(int most) {
            try {
                value();
                return text.length() > p ? Math.min(p, most) : text.length() > most ? most : -1;
            } catch (Fault e) {
                return Math.min(e.at, most);
            }
        }

        char sign() {
            return p < text.length() ? text.charAt(p) : '\uffff';
        }

        int comparison(int depth) {
            int one = sum(depth);
            char c = sign();
            if (c != '<' && c != '>' && c != '=') {
                return one;
            }
            p++;
            int other = sum(depth);
            return (c == '<' ? one < other : c == '>' ? one > other : one == other) ? 1 : 0;
        }

        int sum(int depth) {
            int all = product(depth);
            while (sign() == '+' || sign() == '-') {
                boolean plus = sign() == '+';
                p++;
                int next = product(depth);
                all = plus ? all + next : all - next;
            }
            return all;
        }

        int product(int depth) {
            int all = signed(depth);
            while (sign() == '*' || sign() == '/') {
                boolean times = sign() == '*';
                p++;
                int next = signed(depth);
                all = times ? all * next : next == 0 ? 0 : (int) ((long) all / next);
            }
            return all;
        }

        int signed(int depth) {
            if (sign() == '-') {
                p++;
                return -signed(depth);
            }
            char c = sign();
            if (c == '(' && depth < 4) {
                p++;
                int value = comparison(depth + 1);
                if (sign() != ')') {
                    throw new Fault(p);
                }
                p++;
                return value;
            }
            if (c >= '0' && c <= '9') {
                int value = 0;
                for (int i = 0; i < 3 && sign() >= '0' && sign() <= '9'; i++) {
                    value = 10 * value + sign() - '0';
                    p++;
                }
                return value;
            }
            if (p >= text.length() || "xydkqcn".indexOf(c) < 0) {
                throw new Fault(p);
            }
            p++;
            return things["xydkqcn".indexOf(c)];
        }
    }
}
