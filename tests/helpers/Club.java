import java.util.NoSuchElementException;
import java.util.function.Supplier;
import java.util.function.ToLongFunction;

/**
 * One object under test, whose calls are counted, as a test that uses it for more than 512 tells nothing; and what the
 * tests of sentences share: which sentence is tested, and whether an answer is the one that is due.
 */
final class Club {
    /** In place of an answer: NoSuchElementException. */
    static final long THROWN = Long.MIN_VALUE;
    static final int LEAST = Integer.MIN_VALUE;
    static final int MOST = Integer.MAX_VALUE;
    private static final int MOST_CALLS = 512;
    /** Stands behind the texts and is cut off by end(): a sign that could go on in most of them. */
    private static final char CUT_OFF = '1';

    private static String place = "";
    private static String sentence = "";
    private static int wrong;

    private final RentBoard board = new RentBoard();
    private int calls;

    // ---- sentences

    static void promise(int number) {
        place = "Promise " + number;
        sentence = "";
    }

    static void terms(int number) {
        place = "Terms " + number;
        sentence = "";
    }

    static void says(String words) {
        sentence = words;
    }

    static void due(String what, long got, long want) {
        if (got != want) {
            wrong++;
            System.out.println(place + ", \"" + sentence + "\": " + what + " answered " + got + ", due is " + want);
        }
    }

    static void due(String what, boolean got, boolean want) {
        due(what, got ? 1 : 0, want ? 1 : 0);
    }

    static void due(String what, String got, String want) {
        if (!got.equals(want)) {
            wrong++;
            System.out.println(place + ", \"" + sentence + "\": " + what + ":\n  it is  " + got + "\n  due is " + want);
        }
    }

    static void finish(String name) {
        System.out.println(name + ": " + (wrong == 0 ? "every sentence holds" : wrong + " answers are wrong"));
        if (wrong != 0) {
            System.exit(1);
        }
    }

    // ---- objects

    /** PIECES by a text, THE RULE by a text; both have to be let in. */
    static Club of(String lines, String rule) {
        Club made = new Club();
        int n = lines.isEmpty() ? 0 : (lines.length() + 1) / 6;
        due("pieces() of " + lines, made.pieces(lines), n);
        due("rule() of " + rule, made.rule(rule), 0);
        return made;
    }

    static Club of(String lines) {
        Club made = new Club();
        int n = lines.isEmpty() ? 0 : (lines.length() + 1) / 6;
        due("pieces() of " + lines, made.pieces(lines), n);
        return made;
    }

    /** What a call answers on an object that is like another one, and that it leaves all as it is there, the ROW too. */
    static void changesNothing(String what, Supplier<Club> made, ToLongFunction<Club> call, long want) {
        Club asked = made.get();
        due(what, call.applyAsLong(asked), want);
        due(what + " leaves", asked.everything(true), made.get().everything(true));
    }

    /** As changesNothing(), but for the ROW. */
    static void changesTheRowAlone(String what, Supplier<Club> made, ToLongFunction<Club> call) {
        Club asked = made.get();
        call.applyAsLong(asked);
        due(what + " leaves", asked.everything(false), made.get().everything(false));
    }

    /** All that can be seen of it, THE TEXT by rule(), what was kept by undo() and again(): it is of no use behind that. */
    String everything(boolean withRow) {
        StringBuilder all = new StringBuilder();
        all.append(withRow ? "ROW " + rowText() + "; " : "");
        for (int what = 0; what <= 11; what++) {
            all.append(what == 10 ? "" : count(what) + " ");
        }
        all.append(state());
        for (int square = 0; square < 25 && count(0) > 0; square += 6) {
            all.append(rent(0, square)).append(' ');
        }
        all.append("; heard ").append(fits()).append(", seen ").append(laws()).append(' ').append(rowText());
        all.append("; THE TEXT ").append(rule()).append(' ');
        for (int square = 0; square < 25 && count(0) > 0; square += 6) {
            all.append(rent(0, square)).append(' ');
        }
        for (int left = count(9); left > 0; left--) {
            all.append("; undo ").append(undo()).append(' ').append(state());
        }
        for (int i = 0; i < 2; i++) {
            all.append("; again ").append(again(i)).append(' ').append(state());
        }
        return all.toString();
    }

    /** What undo() and again() bring back. */
    String state() {
        StringBuilder all = new StringBuilder();
        all.append("TURN ").append(count(2)).append(" QUARTER ").append(count(3)).append(" MOVES ").append(count(4));
        int n = count(0);
        for (int i = 0; i < n; i++) {
            all.append(" ").append(piece(i, 0)).append('/').append(piece(i, 1)).append('/').append(piece(i, 2));
            all.append('/').append(piece(i, 3));
        }
        return all.toString();
    }

    String rowText() {
        StringBuilder all = new StringBuilder("[");
        int n = count(10);
        for (int i = 0; i < n; i++) {
            all.append(i == 0 ? "" : " ").append(row(i));
        }
        return all.append("]").toString();
    }

    /** The ROW is this one, and has nothing behind it. */
    void rowIs(String what, long... want) {
        due(what + ": numbers of the ROW", count(10), want.length);
        for (int i = 0; i < want.length; i++) {
            due(what + ": row(" + i + ")", row(i), want[i]);
        }
        due(what + ": row(" + want.length + ")", row(want.length), THROWN);
    }

    // ---- texts

    void put(String text) {
        end(0);
        for (int i = 0; i < text.length(); i += 4) {
            int v = 0;
            for (int j = i; j < i + 4; j++) {
                v = v << 8 | (j < text.length() ? text.charAt(j) : CUT_OFF);
            }
            sign(v);
        }
        end(text.length());
        due("signs of " + text, count(11), text.length());
    }

    int pieces(String text) {
        put(text);
        return pieces();
    }

    int rule(String text) {
        put(text);
        return rule();
    }

    int game(String text) {
        put(text);
        return game();
    }

    int law(String text) {
        put(text);
        return law();
    }

    static String times(String text, int n) {
        return text.repeat(n);
    }

    /** A1 is 0, e5 is 24. */
    static int at(String name) {
        return name.charAt(0) - 'a' + 5 * (name.charAt(1) - '1');
    }

    static String nameOf(int square) {
        return "" + (char) ('a' + square % 5) + (char) ('1' + square / 5);
    }

    /** SQUARES told with one sign between. */
    static int bits(String names) {
        int all = 0;
        for (int i = 0; i + 1 < names.length(); i += 3) {
            all |= 1 << at(names.substring(i, i + 2));
        }
        return all;
    }

    // ---- calls

    private RentBoard next() {
        calls++;
        if (calls > MOST_CALLS) {
            throw new IllegalStateException(place + ": a test uses an object for more than 512 calls");
        }
        return board;
    }

    int callsSoFar() {
        return calls;
    }

    private interface Answer {
        long get();
    }

    private static long orThrown(Answer answer) {
        try {
            return answer.get();
        } catch (NoSuchElementException e) {
            return THROWN;
        }
    }

    int sign(int v) {
        return next().sign(v);
    }

    boolean end(int n) {
        return next().end(n);
    }

    int pieces() {
        return next().pieces();
    }

    int rule() {
        return next().rule();
    }

    long piece(int piece, int what) {
        RentBoard asked = next();
        return orThrown(() -> asked.piece(piece, what));
    }

    long square(int square) {
        RentBoard asked = next();
        return orThrown(() -> asked.square(square));
    }

    long rent(int piece, int square) {
        RentBoard asked = next();
        return orThrown(() -> asked.rent(piece, square));
    }

    int sheet(int kind, int n, int f, int step) {
        return next().sheet(kind, n, f, step);
    }

    int moves(int piece, int square) {
        return next().moves(piece, square);
    }

    int quarters(int n) {
        return next().quarters(n);
    }

    int passes() {
        return next().passes();
    }

    int gives(int one, int other, int n) {
        return next().gives(one, other, n);
    }

    int wages(int side, int n) {
        return next().wages(side, n);
    }

    int game() {
        return next().game();
    }

    int undo() {
        return next().undo();
    }

    int goes(int piece) {
        return next().goes(piece);
    }

    int threats(int piece) {
        return next().threats(piece);
    }

    int hops(int piece, int square) {
        return next().hops(piece, square);
    }

    int ways(int piece, int square, int n) {
        return next().ways(piece, square, n);
    }

    int owes(int side) {
        return next().owes(side);
    }

    int later(int piece, int n) {
        return next().later(piece, n);
    }

    int when(int piece) {
        return next().when(piece);
    }

    int needs(int piece, int n) {
        return next().needs(piece, n);
    }

    int cheapest(int piece) {
        return next().cheapest(piece);
    }

    int wanders(int piece, int n) {
        return next().wanders(piece, n);
    }

    int stays(int piece, int n) {
        return next().stays(piece, n);
    }

    int best() {
        return next().best();
    }

    int looks(int n) {
        return next().looks(n);
    }

    int choices() {
        return next().choices();
    }

    int heard(int what, int v) {
        return next().heard(what, v);
    }

    int forget() {
        return next().forget();
    }

    int fits() {
        return next().fits();
    }

    int asks() {
        return next().asks();
    }

    int saw(int d, int v) {
        return next().saw(d, v);
    }

    int denies() {
        return next().denies();
    }

    int laws() {
        return next().laws();
    }

    int sees() {
        return next().sees();
    }

    int odds(int side, int k, int p) {
        return next().odds(side, k, p);
    }

    int knights(int x, int y) {
        return next().knights(x, y);
    }

    int rests(int v) {
        return next().rests(v);
    }

    int law() {
        return next().law();
    }

    int years(int seed, int n) {
        return next().years(seed, n);
    }

    boolean keep(int i) {
        return next().keep(i);
    }

    boolean again(int i) {
        return next().again(i);
    }

    int count(int what) {
        return next().count(what);
    }

    long row(int i) {
        RentBoard asked = next();
        return orThrown(() -> asked.row(i));
    }
}
