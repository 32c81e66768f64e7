/** Promises 31 to 38, sentence by sentence. */
public final class SentencesOfGuesses {
    private static final int LEAST = Club.LEAST;
    private static final int MOST = Club.MOST;

    public static void main(String[] args) {
        heard();
        twelveHeard();
        forget();
        fitsByEach();
        fitsAllThatWasHeard();
        fitsNow();
        asks();
        asksTheLastOfEach();
        asksOfEqualOnes();
        asksWhereNoneFits();
        saw();
        tenSeen();
        denies();
        laws();
        lawsByHand();
        sees();
        Club.finish("SentencesOfGuesses");
    }

    // ---- heard

    private static void heard() {
        Club.promise(31);
        Club.says("what 0: KIND is v (0 .. 5); 1: SIDE is v (0, 1); 2: PURSE is v (0 .. 9) tens or more; 3: d of its SQUARE is v "
            + "(0 .. 2); 4: it CAN GO to v (0 .. 9) SQUARES or more: how many such");
        int[] most = {5, 1, 9, 2, 9};
        for (int what = 0; what < 5; what++) {
            Club c = new Club();
            for (int v = 0; v <= most[what]; v++) {
                Club.due("heard(" + what + ", " + v + ")", c.heard(what, v), v + 1);
                Club.due("what was heard", c.count(7), v + 1);
            }
            Club.says("Refused: others");
            for (int v : new int[] {-1, most[what] + 1, most[what] + 2, LEAST, MOST}) {
                Club.due("heard(" + what + ", " + v + ")", c.heard(what, v), -1);
            }
            Club.due("what was heard", c.count(7), most[what] + 1);
        }
        Club c = new Club();
        for (int what : new int[] {-1, 5, 6, LEAST, MOST}) {
            Club.due("heard(" + what + ", 0)", c.heard(what, 0), -1);
        }
        Club.due("what was heard", c.count(7), 0);
        Club.says("how many such (the same twice, too)");
        Club.due("once", c.heard(0, 1), 1);
        Club.due("twice", c.heard(0, 1), 2);
    }

    private static void twelveHeard() {
        Club.says("Refused: 12");
        Club c = Club.of("Ka150;ra550");
        for (int i = 1; i <= 11; i++) {
            Club.due("heard", c.heard(4, 0), i);
        }
        Club.due("the twelfth", c.heard(0, 0), 12);
        Club.due("the thirteenth", c.heard(0, 2), -1);
        Club.due("what was heard", c.count(7), 12);
        Club.due("the twelfth counts, the thirteenth does not", c.fits(), 1);
        c.forget();
        Club.due("behind forget()", c.heard(0, 2), 1);
        Club.due("the king does not fit any more", c.fits(), 2);
    }

    private static void forget() {
        Club.promise(32);
        Club.says("It is forgotten: how many there were");
        Club c = Club.of("Ka150;ra550");
        Club.due("none", c.forget(), 0);
        c.heard(0, 5);
        c.heard(1, 1);
        c.saw(0, 3);
        Club.due("none fits", c.fits(), 0);
        Club.due("two", c.forget(), 2);
        Club.due("what was heard", c.count(7), 0);
        Club.due("all fit", c.fits(), 3);
        Club.due("none any more", c.forget(), 0);
        Club.due("what was seen stays", c.count(8), 1);
    }

    // ---- fits

    private static void fits(String lines, int what, int v, int want) {
        Club c = Club.of(lines);
        c.heard(what, v);
        Club.due("fits() of " + lines + " by " + what + ", " + v, c.fits(), want);
        c.rowIs("fits", Integer.bitCount(want));
    }

    private static void fitsByEach() {
        Club.promise(33);
        Club.says("PIECES (bits) that fit all that was heard now; the ROW: how many: KIND is v");
        String all = "Ka100;Qc209;rb310;Be519;nd429;pc399;Pe190;Ka589";
        int[] kinds = {1 | 128, 2, 4, 8, 16, 32 | 64};
        for (int v = 0; v < 6; v++) {
            fits(all, 0, v, kinds[v]);
        }
        Club.says("SIDE is v");
        fits(all, 1, 0, 1 | 2 | 8 | 64 | 128);
        fits(all, 1, 1, 4 | 16 | 32);
        Club.says("PURSE is v (0 .. 9) tens or more");
        fits(all, 2, 0, 255);
        fits(all, 2, 1, 255 & ~3);
        fits(all, 2, 2, 16 | 32 | 64 | 128);
        fits(all, 2, 3, 32 | 64 | 128);
        fits(all, 2, 8, 32 | 64 | 128);
        fits(all, 2, 9, 32 | 64);
        Club.says("d of its SQUARE is v (0 .. 2)");
        fits(all, 3, 0, 32);
        fits(all, 3, 1, 2 | 4 | 16);
        fits(all, 3, 2, 1 | 8 | 64 | 128);
        Club.says("it CAN GO to v (0 .. 9) SQUARES or more");
        String go = "Ka150;Kc150;Qe550;Pc550;Pa450;nc350";
        int[] can = {3, 5, 7, 0, 1, 8};
        for (int v = 0; v <= 9; v++) {
            int want = 0;
            for (int i = 0; i < 6; i++) {
                want |= can[i] >= v ? 1 << i : 0;
            }
            fits(go, 4, v, want);
        }
        fits("Qc350;Ra150", 4, 8, 3);
        fits("Qc350;Ra150", 4, 9, 1);
        fits("Qa150;Pa350", 4, 9, 1);
        fits("Qa150;Pa250", 4, 8, 1);
        fits("Qa150;Pa250", 4, 9, 0);
        Club.says("it CAN GO (whosever TURN it is, captures too)");
        Club c = Club.of("Ka150;nb250;pe150");
        c.heard(4, 3);
        Club.due("white's TURN", c.fits(), 3);
        c.passes();
        Club.due("black's TURN", c.fits(), 3);
    }

    private static void fitsAllThatWasHeard() {
        Club.says("PIECES that fit all that was heard");
        Club c = Club.of("Ka105;ka515;Kc325;qc435;Qe145");
        Club.due("nothing was heard", c.fits(), 31);
        c.rowIs("nothing was heard", 5);
        c.heard(0, 0);
        Club.due("kings", c.fits(), 7);
        c.heard(1, 0);
        Club.due("white kings", c.fits(), 5);
        c.heard(2, 1);
        Club.due("that have 10", c.fits(), 4);
        c.rowIs("that have 10", 1);
        c.heard(3, 0);
        Club.due("in the middle", c.fits(), 4);
        c.heard(3, 1);
        Club.due("and beside it", c.fits(), 0);
        c.rowIs("and beside it", 0);
        Club none = new Club();
        Club.due("without PIECES", none.fits(), 0);
        none.rowIs("without PIECES", 0);
    }

    private static void fitsNow() {
        Club.says("PIECES that fit all that was heard now; of a piece that is not OUT");
        Club c = Club.of("Pa450;rb509;ke100");
        c.heard(0, 1);
        Club.due("no queen", c.fits(), 0);
        c.moves(0, Club.at("a5"));
        Club.due("a pawn that has become one", c.fits(), 1);
        c.forget();
        c.heard(2, 1);
        Club.due("that have 10", c.fits(), 1);
        c.wages(1, 1);
        Club.due("that have 10 by now", c.fits(), 3);
        c.forget();
        c.heard(2, 0);
        Club.due("all", c.fits(), 7);
        c.sheet(2, 3, 50, -25);
        c.quarters(1);
        Club.due("none that is OUT", c.fits(), 3);
        c.rowIs("none that is OUT", 2);
    }

    // ---- asks

    private static void asks(String what, Club c, int want, int left) {
        Club.due("asks(), " + what, c.asks(), want);
        c.rowIs(what, left);
    }

    private static void asks() {
        Club.promise(34);
        Club.says("What to ask next, so that, it is so or not, the fewest such PIECES are left at most: 10 times what and v, as they "
            + "may be heard: it; the ROW: how many at most");
        asks("two by KIND", Club.of("Ka150;Qe550"), 0, 1);
        asks("by SIDE", Club.of("Ka150;ke550"), 10, 1);
        asks("by PURSE", Club.of("Ka109;Ke510"), 21, 1);
        asks("by PURSE", Club.of("Ka119;Ke525"), 22, 1);
        asks("by d", Club.of("Ka150;Kb250"), 31, 1);
        asks("by SQUARES", Club.of("Ka150;Kc150"), 44, 1);
        asks("KINDS of four, two by two", Club.of("Qa150;Qe150;Ra550;Re550"), 1, 2);
        asks("SIDES of four, two by two", Club.of("Ka150;qe150;Ra550;be550"), 10, 2);
        asks("three of five", Club.of("Ka150;Ke150;Ka550;qe550;qc350"), 0, 3);
        asks("of those that fit alone", heardOf("Ka150;Qe550;Qa550;Qc500", 0, 1), 21, 2);
        Club c = heardOf("Ka150;Qe550;qa550", 0, 1);
        asks("of those that fit alone", c, 10, 1);
        Club.due("it is no more heard than ahead of it", c.count(7), 1);
        Club out = Club.of("Ka150;Qe500;ka550");
        out.quarters(1);
        asks("of those that are not OUT", out, 10, 1);
    }

    private static Club heardOf(String lines, int what, int v) {
        Club c = Club.of(lines);
        c.heard(what, v);
        return c;
    }

    private static void asksTheLastOfEach() {
        Club.says("as they may be heard (the last v of each what)");
        asks("pawns", Club.of("Ka550;Qc450;Nd250;Bb150;Pb550;Pd550;Pe550;Pc550"), 5, 4);
        asks("the middle, beside, the edge", Club.of("Kc350;Kb250;Ka150;Ka550"), 32, 2);
        asks("90", Club.of("Ka189;Ke590"), 29, 1);
        asks("80", Club.of("Ka179;Ke580"), 28, 1);
        asks("nine SQUARES", heardOf("Qa150;Qe150;Pa350", 0, 1), 49, 1);
        asks("eight SQUARES", heardOf("Qa150;Qe150;Pa250", 0, 1), 48, 1);
    }

    private static void asksOfEqualOnes() {
        Club.says("of equal ones the least");
        asks("one is left", Club.of("Pc350"), 0, 1);
        asks("two alike, whatever is asked", Club.of("Ka150;Ke150"), 0, 2);
        asks("eight alike", Club.of("Pa150;Pa250;Pa350;Pa450;Pa550;Pb550;Pc550;Pd550"), 0, 8);
        asks("by KIND or by SIDE", Club.of("Qa150;re550"), 1, 1);
        asks("by SIDE or by PURSE", Club.of("Qa110;qe590"), 10, 1);
        asks("by PURSE or by d", Club.of("Qa110;Qc390"), 22, 1);
        asks("by d or by SQUARES", Club.of("Ka110;Kc310"), 30, 1);
        Club full = Club.of("Ka150;ke550");
        for (int i = 0; i < 12; i++) {
            full.heard(4, 0);
        }
        asks("12 are heard", full, 10, 1);
    }

    private static void asksWhereNoneFits() {
        Club.says("-2: none fits");
        Club c = heardOf("Ka150;Qe550", 0, 2);
        c.rests(0);
        Club.due("asks()", c.asks(), -2);
        c.rowIs("the ROW stays", 0, 0);
        Club.due("without PIECES", new Club().asks(), -2);
        Club out = Club.of("Ka100");
        out.quarters(1);
        Club.due("all are OUT", out.asks(), -2);
    }

    // ---- saw

    private static void saw() {
        Club.promise(35);
        Club.says("It was seen that on a SQUARE of d (0 .. 2) RENT was v (0 .. 20): how many such");
        Club c = new Club();
        Club.due("saw(0, 0)", c.saw(0, 0), 1);
        Club.due("saw(0, 20)", c.saw(0, 20), 2);
        Club.due("saw(2, 0)", c.saw(2, 0), 3);
        Club.due("saw(2, 20)", c.saw(2, 20), 4);
        Club.due("the same twice", c.saw(2, 20), 5);
        Club.due("what was seen", c.count(8), 5);
        Club.says("Refused: others");
        for (int d : new int[] {-1, 3, 4, LEAST, MOST}) {
            Club.due("saw(" + d + ", 5)", c.saw(d, 5), -1);
        }
        for (int v : new int[] {-1, 21, 22, LEAST, MOST}) {
            Club.due("saw(1, " + v + ")", c.saw(1, v), -1);
        }
        Club.due("what was seen", c.count(8), 5);
    }

    private static void tenSeen() {
        Club.says("Refused: 10");
        Club c = new Club();
        for (int i = 1; i <= 9; i++) {
            Club.due("saw", c.saw(2, 3), i);
        }
        Club.due("the tenth", c.saw(0, 7), 10);
        Club.due("the eleventh", c.saw(0, 8), -1);
        Club.due("what was seen", c.count(8), 10);
        Club.due("the tenth counts, the eleventh does not", c.laws(), 1);
        c.rowIs("2 by 2 and 3", 2, 3);
        c.denies();
        Club.due("behind denies()", c.saw(0, 8), 1);
    }

    private static void denies() {
        Club.promise(36);
        Club.says("It is denied: how many there were");
        Club c = new Club();
        Club.due("none", c.denies(), 0);
        c.saw(0, 20);
        c.saw(0, 19);
        c.saw(0, 18);
        c.heard(0, 0);
        Club.due("no law fits", c.laws(), 0);
        Club.due("three", c.denies(), 3);
        Club.due("what was seen", c.count(8), 0);
        Club.due("all laws fit", c.laws(), 49);
        Club.due("none any more", c.denies(), 0);
        Club.due("what was heard stays", c.count(7), 1);
    }

    // ---- laws

    private static int lawsThatFit(int d, int v) {
        int all = 0;
        for (int a = 0; a <= 6; a++) {
            for (int b = 0; b <= 6; b++) {
                all += a * (2 - d) + b == v ? 1 : 0;
            }
        }
        return all;
    }

    private static void laws() {
        Club.promise(37);
        Club.says("(a 0 .. 6, b 0 .. 6: a for each that d is less than 2, and b). Laws (49 of them) that fit all that was seen: how "
            + "many; the ROW: the least a, b (nothing without)");
        Club all = new Club();
        Club.due("all", all.laws(), 49);
        all.rowIs("all", 0, 0);
        for (int d = 0; d <= 2; d++) {
            for (int v = 0; v <= 20; v++) {
                Club c = new Club();
                c.rests(0);
                c.saw(d, v);
                int fit = lawsThatFit(d, v);
                Club.due("laws() by d " + d + ", RENT " + v, c.laws(), fit);
                if (fit == 0) {
                    c.rowIs("none", new long[0]);
                } else {
                    int a = 0;
                    while (v - a * (2 - d) > 6) {
                        a++;
                    }
                    c.rowIs("the least", a, v - a * (2 - d));
                }
            }
        }
    }

    private static void lawsByHand() {
        Club c = new Club();
        c.saw(2, 6);
        Club.due("b is 6", c.laws(), 7);
        c.rowIs("b is 6", 0, 6);
        c.saw(0, 18);
        Club.due("a is 6, too", c.laws(), 1);
        c.rowIs("a is 6, too", 6, 6);
        c.saw(1, 12);
        Club.due("as it has to be", c.laws(), 1);
        c.saw(1, 11);
        Club.due("as it can't be", c.laws(), 0);
        c.rowIs("as it can't be", new long[0]);
        Club other = new Club();
        other.saw(0, 7);
        Club.due("2a + b is 7", other.laws(), 3);
        other.rowIs("2a + b is 7", 1, 5);
        other.saw(1, 5);
        Club.due("a + b is 5", other.laws(), 1);
        other.rowIs("a + b is 5", 2, 3);
        Club none = new Club();
        none.saw(2, 7);
        Club.due("b is above 6", none.laws(), 0);
    }

    // ---- sees

    private static void sees(String what, Club c, int want, int left) {
        Club.due("sees(), " + what, c.sees(), want);
        c.rowIs(what, left);
    }

    private static Club seen(int... pairs) {
        Club c = new Club();
        for (int i = 0; i + 1 < pairs.length; i += 2) {
            c.saw(pairs[i], pairs[i + 1]);
        }
        return c;
    }

    private static void sees() {
        Club.promise(38);
        Club.says("The d at which to look next, so that, whatever RENT is there, the fewest laws are left at most: of equal ones the "
            + "least: it; the ROW: how many at most");
        sees("all laws", seen(), 0, 4);
        sees("b is 3", seen(2, 3), 0, 1);
        sees("2a + b is 6", seen(0, 6), 1, 1);
        sees("a + b is 6", seen(1, 6), 0, 1);
        sees("a + b is 0", seen(1, 0), 0, 1);
        sees("one is left", seen(0, 6, 1, 4), 0, 1);
        Club.says("-2: none fits");
        Club c = seen(2, 7);
        c.rests(0);
        Club.due("sees()", c.sees(), -2);
        c.rowIs("the ROW stays", 0, 0);
        Club.due("sees()", seen(2, 3, 2, 4).sees(), -2);
        Club.due("it is no more seen than ahead of it", c.count(8), 1);
    }
}
