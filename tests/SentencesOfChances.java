/** Promises 39 to 43, sentence by sentence. */
public final class SentencesOfChances {
    private static final int LEAST = Club.LEAST;
    private static final int MOST = Club.MOST;

    public static void main(String[] args) {
        odds();
        oddsOfAll();
        oddsThatCannotBe();
        knights();
        knightsThatCannotBe();
        rests();
        restsByHand();
        restsThatCannotBe();
        law();
        lawBehind8();
        lawsThatFail();
        draws();
        seeds();
        aloneOnTheBoard();
        whoseMoves();
        manyYears();
        yearsThatCannotBe();
        Club.finish("SentencesOfChances");
    }

    // ---- odds

    private static void odds(Club c, int side, int k, int p, long upper, long lower) {
        String what = "odds(" + side + ", " + k + ", " + p + ")";
        Club.due(what, c.odds(side, k, p), 0);
        c.rowIs(what, upper, lower);
    }

    private static void odds() {
        Club.promise(39);
        Club.says("Each piece of a SIDE that is not OUT is evicted by p tenths (0 .. 10), each by itself: how likely k (0 .. 8) or "
            + "more of them stay: 0; the ROW: the fraction");
        Club c = Club.of("Ka150;Kb150;Kc100;rd150;re150");
        odds(c, 1, 1, 3, 91, 100);
        odds(c, 1, 2, 3, 49, 100);
        odds(c, 1, 1, 5, 3, 4);
        odds(c, 0, 3, 5, 1, 8);
        odds(c, 0, 2, 5, 1, 2);
        odds(c, 0, 1, 2, 124, 125);
        Club.says("k or more of them: none or more, more than there are");
        odds(c, 0, 0, 0, 1, 1);
        odds(c, 0, 0, 10, 1, 1);
        odds(c, 0, 0, 7, 1, 1);
        odds(c, 0, 4, 0, 0, 1);
        odds(c, 0, 8, 0, 0, 1);
        odds(c, 0, 8, 10, 0, 1);
        Club.says("by p tenths (0 .. 10): none, all");
        odds(c, 0, 3, 0, 1, 1);
        odds(c, 0, 1, 10, 0, 1);
        odds(c, 0, 3, 1, 729, 1000);
        odds(c, 0, 3, 9, 1, 1000);
        Club.says("that is not OUT");
        c.quarters(1);
        odds(c, 0, 3, 0, 0, 1);
        odds(c, 0, 2, 1, 81, 100);
        Club.says("without any");
        Club none = Club.of("ra150");
        odds(none, 0, 0, 5, 1, 1);
        odds(none, 0, 1, 0, 0, 1);
        odds(new Club(), 1, 0, 10, 1, 1);
    }

    private static long common(long a, long b) {
        return b == 0 ? a : common(b, a % b);
    }

    /** By each of the ways in which some stay and the others go. */
    private static void oddsOfAll() {
        Club.says("how likely k or more of them stay: as a fraction in lowest terms");
        String lines = "ra150;rb150;rc150;rd150;re150;ra250;rb250;rc250";
        for (int n = 1; n <= 8; n++) {
            for (int p = 0; p <= 10; p++) {
                Club c = Club.of(lines.substring(0, 6 * n - 1));
                for (int k = 0; k <= 8; k++) {
                    long upper = 0;
                    long lower = 1;
                    for (int i = 0; i < n; i++) {
                        lower *= 10;
                    }
                    for (int stay = 0; stay < 1 << n; stay++) {
                        long chance = Integer.bitCount(stay) >= k ? 1 : 0;
                        for (int i = 0; i < n; i++) {
                            chance *= (stay >> i & 1) == 1 ? 10 - p : p;
                        }
                        upper += chance;
                    }
                    long by = common(upper, lower);
                    odds(c, 1, k, p, upper / by, lower / by);
                }
            }
        }
    }

    private static void oddsThatCannotBe() {
        Club.says("NONE: others");
        Club c = Club.of("Ka150");
        c.rests(0);
        for (int side : new int[] {-1, 2, LEAST, MOST}) {
            Club.due("odds(" + side + ", 0, 0)", c.odds(side, 0, 0), -1);
        }
        for (int k : new int[] {-1, 9, 10, LEAST, MOST}) {
            Club.due("odds(0, " + k + ", 0)", c.odds(0, k, 0), -1);
        }
        for (int p : new int[] {-1, 11, 12, LEAST, MOST}) {
            Club.due("odds(0, 0, " + p + ")", c.odds(0, 0, p), -1);
        }
        c.rowIs("the ROW stays", 0, 0);
    }

    // ---- knights

    private static final int[] RIGHT = {-2, -2, -1, 1};
    private static final int[] UP = {-1, 1, -2, -2};

    private static boolean wins(int x, int y) {
        for (int i = 0; i < 4; i++) {
            if (x + RIGHT[i] >= 0 && y + UP[i] >= 0 && !wins(x + RIGHT[i], y + UP[i])) {
                return true;
            }
        }
        return false;
    }

    private static void knights() {
        Club.promise(40);
        Club.says("two columns less and one row more or less, or one column more or less and two rows less (never below 0): who can't "
            + "has lost: 1 if the first one wins by best play, else 0; the ROW: the least column, row to which he moves so (nothing "
            + "without)");
        String[] table = new String[10];
        for (int y = 0; y <= 9; y++) {
            StringBuilder line = new StringBuilder();
            Club c = new Club();
            for (int x = 0; x <= 9; x++) {
                c.rests(0);
                boolean won = wins(x, y);
                line.append(won ? '1' : '0');
                Club.due("knights(" + x + ", " + y + ")", c.knights(x, y), won ? 1 : 0);
                int best = 4;
                for (int i = 3; i >= 0; i--) {
                    best = x + RIGHT[i] >= 0 && y + UP[i] >= 0 && !wins(x + RIGHT[i], y + UP[i]) ? i : best;
                }
                if (won) {
                    c.rowIs("knights(" + x + ", " + y + ")", x + RIGHT[best], y + UP[best]);
                } else {
                    c.rowIs("knights(" + x + ", " + y + ")", new long[0]);
                }
            }
            table[y] = line.toString();
        }
        Club.due("row 0 of the corner", table[0], "0011001100");
        Club.due("row 1 of the corner", table[1], "0011001100");
        Club.due("row 2 of the corner", table[2], "1111111111");
        Club.says("who can't has lost");
        Club c = new Club();
        for (int i = 0; i < 4; i++) {
            Club.due("knights of the corner", c.knights(i % 2, i / 2), 0);
        }
        Club.says("the least column, row to which he moves so");
        Club.due("knights(2, 2)", c.knights(2, 2), 1);
        c.rowIs("two columns less, one row less", 0, 1);
        Club.due("knights(2, 0)", c.knights(2, 0), 1);
        c.rowIs("two columns less, one row more", 0, 1);
        Club.due("knights(1, 2)", c.knights(1, 2), 1);
        c.rowIs("one column less, two rows less", 0, 0);
        Club.due("knights(0, 2)", c.knights(0, 2), 1);
        c.rowIs("one column more, two rows less", 1, 0);
    }

    private static void knightsThatCannotBe() {
        Club.says("column x, row y (0 .. 9 each); NONE: others");
        Club c = new Club();
        Club.due("knights(9, 0)", c.knights(9, 0), 0);
        Club.due("knights(0, 9)", c.knights(0, 9), 0);
        Club.due("knights(9, 9)", c.knights(9, 9), 0);
        Club.due("knights(9, 2)", c.knights(9, 2), 1);
        c.rests(0);
        for (int v : new int[] {-1, 10, 11, LEAST, MOST}) {
            Club.due("knights(" + v + ", 0)", c.knights(v, 0), -1);
            Club.due("knights(0, " + v + ")", c.knights(0, v), -1);
            Club.due("knights(" + v + ", " + v + ")", c.knights(v, v), -1);
        }
        c.rowIs("the ROW stays", 0, 0);
    }

    // ---- rests

    private static int has(int v, int mine, int other) {
        int would = v - 2 * mine < 0 ? 0 : v - 2 * mine;
        int come = mine < other ? would : mine > other ? would / 3 : would / 2;
        return come * mine;
    }

    private static void rests() {
        Club.promise(41);
        Club.says("Pairs by which neither would have more by another number alone: how many; the ROW: the least (nothing without)");
        for (int v = 0; v <= 20; v++) {
            int all = 0;
            int first = -1;
            for (int pair = 0; pair < 100; pair++) {
                int x = pair / 10;
                int y = pair % 10;
                boolean rest = true;
                for (int another = 0; another < 10; another++) {
                    rest &= has(v, another, y) <= has(v, x, y) && has(v, another, x) <= has(v, y, x);
                }
                all += rest ? 1 : 0;
                first = rest && first < 0 ? pair : first;
            }
            Club c = Club.of("Ka150");
            c.odds(0, 0, 0);
            Club.due("rests(" + v + ")", c.rests(v), all);
            if (all == 0) {
                c.rowIs("rests(" + v + ")", new long[0]);
            } else {
                c.rowIs("rests(" + v + ")", first / 10, first % 10);
            }
        }
    }

    private static void restsByHand() {
        Club.says("v less 2 times what he asks (0 at least); to the other a third (cut), to like ones half each (cut)");
        Club c = new Club();
        Club.due("none comes", c.rests(0), 100);
        Club.due("none comes but for nothing", c.rests(1), 100);
        Club.due("none comes but for nothing", c.rests(2), 100);
        Club.due("one comes for 1", c.rests(3), 20);
        Club.due("two come for 1", c.rests(4), 2);
        Club.due("by 6", c.rests(6), 1);
        c.rowIs("by 6", 1, 1);
        Club.due("by 12", c.rests(12), 0);
        Club.due("by 13", c.rests(13), 2);
        c.rowIs("by 13", 1, 2);
    }

    private static void restsThatCannotBe() {
        Club.says("NONE: another v");
        Club c = new Club();
        c.rests(6);
        for (int v : new int[] {-1, 21, 22, LEAST, MOST}) {
            Club.due("rests(" + v + ")", c.rests(v), -1);
        }
        c.rowIs("the ROW stays", 1, 1);
        Club.due("rests(20)", c.rests(20) >= 0, true);
    }

    // ---- law

    private static void law(Club c, String rule, int by, int now, int paidBy, int paidNow) {
        Club.due("law() of \"" + rule + "\"", c.law(rule), by - now);
        c.rowIs("law() of \"" + rule + "\"", by, now, paidBy, paidNow);
        Club.due("signs behind it", c.count(11), 0);
    }

    private static void law() {
        Club.promise(42);
        Club.says("THE TEXT is another RULE (an empty one: none): how many PIECES are not OUT behind 8 QUARTER DAYS by it, less that by "
            + "THE RULE (below 0, too); the ROW: both, by it first, then what was paid in all by it, by THE RULE");
        Club c = Club.of("Ka120;Qc330;re508", "3");
        law(c, "", 3, 1, 8 + 24 + 8, 18 + 24 + 6);
        law(c, "3", 1, 1, 48, 48);
        law(c, "0", 3, 1, 0, 48);
        law(c, "1", 3, 1, 24, 48);
        law(c, "20", 0, 1, 20 + 20, 48);
        law(c, "4", 0, 1, 20 + 28 + 8, 48);
        law(c, "d", 2, 1, 16 + 0 + 8, 48);
        Club.due("THE RULE is as it was", c.piece(0, 4), 3);
        Club.due("QUARTER is as it was", c.count(3), 0);
        Club.due("PURSES are as they were", c.count(5) + c.count(6), 58);
        Club.says("an empty one: none (3-d)");
        Club none = Club.of("Kc324", "");
        law(none, "", 1, 1, 24, 24);
        law(none, "3-d", 1, 1, 24, 24);
        law(none, "4", 0, 1, 24, 24);
        Club.says("without PIECES, of those that are OUT");
        law(new Club(), "5", 0, 0, 0, 0);
        Club out = Club.of("Ka120;Qc300");
        out.quarters(1);
        law(out, "0", 1, 1, 0, 8);
    }

    private static void lawBehind8() {
        Club.says("behind 8 QUARTER DAYS (from the QUARTER now on)");
        law(Club.of("Ka116", "2"), "0", 1, 1, 0, 16);
        law(Club.of("Ka115", "2"), "0", 1, 0, 0, 14);
        law(Club.of("Ka199", "n"), "0", 1, 1, 0, 21);
        Club c = Club.of("Ka199", "n");
        c.quarters(3);
        law(c, "n*2", 1, 1, 48, 3 + 4 + 5 + 6 + 0 + 1 + 2 + 3);
        Club.says("by it (all as all is ahead of each day)");
        law(Club.of("Ka120;Kb101;rc120", "0"), "k", 2, 3, 1 + 1, 0);
    }

    private static void lawsThatFail() {
        Club.says("-10000 - p: the sign at p can't stand there (as rule())");
        String[] texts = {"?", "1+", "1000", "1<2<3", "(((((1", "(1", ")", "1 ", "-", "1+".repeat(20) + "1", "111" + "+".repeat(77),
            "-".repeat(41), "1+".repeat(19) + "1?1", "1+".repeat(19) + "1+"};
        int[] at = {0, 2, 3, 3, 4, 2, 0, 1, 1, 40, 4, 40, 39, 40};
        Club c = Club.of("Ka150", "7");
        c.rests(0);
        for (int i = 0; i < texts.length; i++) {
            Club.due("law() of " + texts[i], c.law(texts[i]), -10000 - at[i]);
            Club.due("signs behind it", c.count(11), 0);
        }
        c.rowIs("the ROW stays", 0, 0);
        Club.due("THE RULE is as it was", c.piece(0, 4), 7);
        Club.due("40 signs", c.law("0+".repeat(19) + "10"), 0);
        Club.due("40 signs, of the least RENT", c.law("0*".repeat(19) + "10"), 1);
    }

    // ---- years

    /** R of the document, in longs. */
    private static final class Draws {
        private long r;

        Draws(int seed) {
            r = seed & 0xFFFFFFFFL;
        }

        int next(int n) {
            r = (r * 1103515245L + 12345L) % 4294967296L;
            return (int) (r / 65536 % n);
        }
    }

    /** One draw, on kings a1 and b1 and a rook that is OUT. */
    private static void draws() {
        Club.promise(43);
        Club.says("a DRAW of 4 tells: 0, 1, 2: a DRAW of PIECES one, a DRAW of 25 a SQUARE: a MOVE; 3: a QUARTER DAY: how many are not "
            + "OUT then; the ROW: PURSES of all together then, MOVES that were made");
        int[] madeBy = new int[4];
        int days = 0;
        int outs = 0;
        int captures = 0;
        for (int seed = 0; seed < 1200; seed++) {
            Club c = Club.of("Ka140;kb230;rc500");
            c.quarters(1);
            Draws r = new Draws(seed * 7919);
            int which = r.next(4);
            int piece = which == 3 ? 0 : r.next(3);
            int square = which == 3 ? 0 : r.next(25);
            outs += which != 3 && piece == 2 ? 1 : 0;
            days += which == 3 ? 1 : 0;
            boolean moved = which != 3 && piece == 0 && (Club.bits("b1 a2 b2") >> square & 1) == 1;
            boolean captured = moved && square == 6;
            madeBy[which] += moved ? 1 : 0;
            captures += captured ? 1 : 0;
            Club.due("years(" + seed * 7919 + ", 1)", c.years(seed * 7919, 1), captured ? 1 : 2);
            c.rowIs("years(" + seed * 7919 + ", 1)", 39 + 28 - (which == 3 ? 1 + 2 : 0), moved ? 1 : 0);
        }
        Club.due("MOVES by 0, by 1, by 2", madeBy[0] > 0 && madeBy[1] > 0 && madeBy[2] > 0, true);
        Club.due("QUARTER DAYS", days > 200, true);
        Club.due("of one that is OUT", outs > 200, true);
        Club.due("captures", captures > 0, true);
    }

    private static void seeds() {
        Club.says("R = R times 1103515245 + 12345 (as ints; R is seed at first), (R without sign, by 65536) % n");
        int[] seeds = {0, 1, -1, 2, -2, MOST, LEAST, MOST - 1, LEAST + 1, 65536, -65536, 1 << 16 | 3, 12345};
        for (int seed : seeds) {
            Club c = Club.of("Ka150;ra550", "1");
            Draws r = new Draws(seed);
            int purses = 100;
            int at = 0;
            int moves = 0;
            boolean white = true;
            boolean simple = true;
            for (int i = 0; i < 12 && simple; i++) {
                if (r.next(4) == 3) {
                    purses -= 2;
                } else {
                    int piece = r.next(2);
                    int to = r.next(25);
                    boolean king = white && piece == 0 && to != at && Math.abs(to % 5 - at % 5) < 2 && Math.abs(to / 5 - at / 5) < 2;
                    simple = white;
                    at = king ? to : at;
                    moves += king ? 1 : 0;
                    white = white && !king;
                }
                if (simple) {
                    Club.due("years(" + seed + ", " + (i + 1) + ")", c.years(seed, i + 1), 2);
                    c.rowIs("years(" + seed + ", " + (i + 1) + ")", purses, moves);
                }
            }
        }
    }

    /** A king alone: it is drawn by a DRAW of 1, and moves once at most. */
    private static void aloneOnTheBoard() {
        Club.says("a DRAW of PIECES one (of one alone, too)");
        int made = 0;
        for (int seed = 0; seed < 60; seed++) {
            Club c = Club.of("Kb250", "1");
            Draws r = new Draws(seed);
            int days = 0;
            int moves = 0;
            for (int n = 1; n <= 5; n++) {
                if (r.next(4) == 3) {
                    days++;
                } else {
                    r.next(1);
                    int to = r.next(25);
                    moves = moves == 1 || to != 6 && to % 5 < 3 && to / 5 < 3 ? 1 : 0;
                }
                Club.due("years(" + seed + ", " + n + ")", c.years(seed, n), 1);
                c.rowIs("years(" + seed + ", " + n + ")", 50 - days, moves);
            }
            made += moves;
        }
        Club.due("some moved", made > 0, true);
    }

    private static void whoseMoves() {
        Club.says("a MOVE, if it is not OUT, of the SIDE whose TURN it is, and CAN GO there");
        boolean white = false;
        boolean black = false;
        for (int seed = 0; seed < 300; seed++) {
            Club c = Club.of("Ka150;Kc350;Ke550", "0");
            c.years(seed, 1);
            white |= c.row(1) == 1;
            c.passes();
            c.years(seed, 1);
            Club.due("white on black's TURN", c.row(1), 0);
            Club other = Club.of("ka150;kc350;ke550", "0");
            other.years(seed, 1);
            Club.due("black on white's TURN", other.row(1), 0);
            other.passes();
            other.years(seed, 1);
            black |= other.row(1) == 1;
            Club stuck = Club.of("Pa550;Pb550;Pc550;Pd550", "0");
            stuck.years(seed, 1);
            Club.due("one that can't go", stuck.row(1), 0);
        }
        Club.due("white on its TURN", white, true);
        Club.due("black on its TURN", black, true);
        Club.says("TURN goes on with each MOVE");
        for (int seed = 0; seed < 60; seed++) {
            Club c = Club.of("Ka150;Kc350;Ke550", "0");
            c.years(seed, 60);
            Club.due("MOVES without another SIDE are one at most", c.row(1) <= 1, true);
        }
        Club.says("MOVES that were made");
        Club pawns = Club.of("Pa550;pb150", "0");
        Club.due("without a MOVE", pawns.years(7, 60), 2);
        pawns.rowIs("without a MOVE", 100, 0);
        Club made = Club.of("Ka150;pe150", "0");
        made.moves(0, 1);
        made.years(7, 60);
        made.rowIs("a MOVE that was made ahead is none of them", 100, 0);
    }

    private static void manyYears() {
        Club.says("n times (1 .. 60)");
        for (int seed = 0; seed < 20; seed++) {
            Club c = Club.of("Pa599;pb199", "1");
            Draws r = new Draws(seed);
            int days = 0;
            for (int n = 1; n <= 60; n++) {
                if (r.next(4) == 3) {
                    days++;
                } else {
                    r.next(2);
                    r.next(25);
                }
                if (n % 12 == 0 || n == 1) {
                    Club.due("years(" + seed + ", " + n + ")", c.years(seed, n), 2);
                    c.rowIs("years(" + seed + ", " + n + ")", 198 - 2 * days, 0);
                }
            }
        }
        Club.says("(without PIECES nothing more than the first DRAW)");
        Club none = new Club();
        Club.due("years(7, 60)", none.years(7, 60), 0);
        none.rowIs("years(7, 60)", 0, 0);
        Club.says("how many are not OUT then; PURSES of all together then");
        Club poor = Club.of("Pa502;pb199", "1");
        Club.due("years(0, 60)", poor.years(0, 60), 1);
        Club.due("it is asked only", poor.count(1), 3);
    }

    private static void yearsThatCannotBe() {
        Club.says("NONE: another n");
        Club c = Club.of("Ka150");
        c.rests(0);
        for (int n : new int[] {-1, 0, 61, 62, LEAST, MOST}) {
            Club.due("years(5, " + n + ")", c.years(5, n), -1);
        }
        c.rowIs("the ROW stays", 0, 0);
        Club.due("years(5, 1)", c.years(5, 1), 1);
    }
}
