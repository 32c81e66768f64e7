import java.util.NoSuchElementException;

/** Each promise of the document by hand: ordinary inputs, the edges that it names, wrong inputs. */
public final class Promises {
    private static final long THROWN = Long.MIN_VALUE;
    private static final int LEAST = Integer.MIN_VALUE;
    private static final int MOST = Integer.MAX_VALUE;

    private static int wrong;
    private static int promise;
    private static RentBoard b;

    public static void main(String[] args) {
        newObject();
        signs();
        ends();
        linesThatStand();
        linesThatFail();
        rulesThatFail();
        rulesThatStand();
        thingsOfRules();
        readings();
        sheets();
        moves();
        quarterDays();
        passesGivesWages();
        games();
        gamesThatFail();
        undone();
        goes();
        threats();
        hops();
        ways();
        owes();
        laterAndWhen();
        needs();
        cheapest();
        wanders();
        stays();
        best();
        looks();
        choices();
        heardAndFits();
        asks();
        sawAndLaws();
        sees();
        odds();
        knights();
        rests();
        laws();
        years();
        keptStates();
        counts();
        rowThatStays();
        System.out.println(wrong == 0 ? "every promise is kept" : wrong + " answers are wrong");
        if (wrong != 0) {
            System.exit(1);
        }
    }

    // ---- helpers

    private static void due(String what, long got, long want) {
        if (got != want) {
            wrong++;
            System.out.println("promise " + promise + ": " + what + " answered " + got + ", due is " + want);
        }
    }

    private static void due(String what, boolean got, boolean want) {
        due(what, got ? 1 : 0, want ? 1 : 0);
    }

    private static void rowIs(String what, long... want) {
        due(what + ", numbers of the ROW", b.count(10), want.length);
        for (int i = 0; i < want.length; i++) {
            due(what + ", row(" + i + ")", row(i), want[i]);
        }
        due(what + ", row behind the last", row(want.length), THROWN);
    }

    private static long row(int i) {
        try {
            return b.row(i);
        } catch (NoSuchElementException e) {
            return THROWN;
        }
    }

    private static long piece(int piece, int what) {
        try {
            return b.piece(piece, what);
        } catch (NoSuchElementException e) {
            return THROWN;
        }
    }

    private static long square(int square) {
        try {
            return b.square(square);
        } catch (NoSuchElementException e) {
            return THROWN;
        }
    }

    private static long rent(int piece, int square) {
        try {
            return b.rent(piece, square);
        } catch (NoSuchElementException e) {
            return THROWN;
        }
    }

    private static void put(String text) {
        for (int i = 0; i < text.length(); i += 4) {
            int v = 0;
            for (int j = i; j < i + 4; j++) {
                v = v << 8 | (j < text.length() ? text.charAt(j) : 0);
            }
            b.sign(v);
        }
        b.end(text.length());
        due("signs of " + text, b.count(11), text.length());
    }

    private static int pieces(String text) {
        put(text);
        int got = b.pieces();
        due("THE TEXT behind pieces()", b.count(11), 0);
        return got;
    }

    private static int rule(String text) {
        put(text);
        int got = b.rule();
        due("THE TEXT behind rule()", b.count(11), 0);
        return got;
    }

    private static int law(String text) {
        put(text);
        int got = b.law();
        due("THE TEXT behind law()", b.count(11), 0);
        return got;
    }

    private static int game(String text) {
        put(text);
        int got = b.game();
        due("THE TEXT behind game()", b.count(11), 0);
        return got;
    }

    private static void club(int number, String text, String rule) {
        promise = number;
        b = new RentBoard();
        int n = text.isEmpty() ? 0 : (text.length() + 1) / 6;
        due("pieces of " + text, pieces(text), n);
        due("rule " + rule, rule(rule), 0);
    }

    /** A1 is 0, e5 is 24. */
    private static int at(String name) {
        return name.charAt(0) - 'a' + 5 * (name.charAt(1) - '1');
    }

    private static int bits(String names) {
        int all = 0;
        for (int i = 0; i + 1 < names.length(); i += 3) {
            all |= 1 << at(names.substring(i, i + 2));
        }
        return all;
    }

    private static String times(String text, int n) {
        StringBuilder all = new StringBuilder();
        for (int i = 0; i < n; i++) {
            all.append(text);
        }
        return all.toString();
    }

    // ---- pieces

    private static void newObject() {
        promise = 1;
        b = new RentBoard();
        for (int what = 0; what <= 11; what++) {
            due("count(" + what + ")", b.count(what), 0);
        }
        due("NONE", RentBoard.NONE, -1);
        due("piece(0, 0)", piece(0, 0), THROWN);
        due("square(12)", square(12), 8);
        due("row(0)", row(0), THROWN);
        due("undo()", b.undo(), -1);
        due("again(0)", b.again(0), false);
    }

    private static void signs() {
        promise = 2;
        b = new RentBoard();
        for (int i = 1; i <= 20; i++) {
            due("sign", b.sign(-i), 4 * i);
        }
        due("sign beyond 80", b.sign(0), -1);
        due("count(11)", b.count(11), 80);
        due("end(77)", b.end(77), true);
        due("sign for which there is no room", b.sign(0), -1);
        due("end(76)", b.end(76), true);
        due("sign up to 80", b.sign(0), 80);
        b = new RentBoard();
        due("the highest byte first", b.sign(('K' << 24) + ('c' << 16) + ('2' << 8) + '4'), 4);
        b.sign('2' << 24);
        b.end(5);
        due("pieces()", b.pieces(), 1);
        due("SQUARE", piece(0, 2), at("c2"));
        due("PURSE", piece(0, 3), 42);
        b.sign(0xFF000000);
        b.end(1);
        due("a sign above 127", b.rule(), -1);
    }

    private static void ends() {
        promise = 3;
        b = new RentBoard();
        due("end(0) of none", b.end(0), true);
        due("end(1) of none", b.end(1), false);
        b.sign(0);
        due("end(5)", b.end(5), false);
        due("end(-1)", b.end(-1), false);
        due("end(least)", b.end(LEAST), false);
        due("end(most)", b.end(MOST), false);
        due("count(11)", b.count(11), 4);
        due("end(4)", b.end(4), true);
        due("end(2)", b.end(2), true);
        due("end(3)", b.end(3), false);
        due("count(11)", b.count(11), 2);
    }

    private static final String EIGHT = "Ka100;Qb101;Rc102;Bd103;Ne104;Pa205;kb206;qc299";

    private static void linesThatStand() {
        promise = 4;
        b = new RentBoard();
        due("an empty text", b.pieces(), 0);
        due("eight", pieces(EIGHT), 8);
        int[] kinds = {0, 1, 2, 3, 4, 5, 0, 1};
        for (int i = 0; i < 8; i++) {
            due("KIND " + i, piece(i, 0), kinds[i]);
            due("SIDE " + i, piece(i, 1), i < 6 ? 0 : 1);
            due("SQUARE " + i, piece(i, 2), i);
            due("PURSE " + i, piece(i, 3), i == 7 ? 99 : i);
        }
        due("no room", pieces("re500"), -1);
        due("no room for what is no LINE", pieces("?"), -1);
        due("an empty text, no room", b.pieces(), 0);
        b = new RentBoard();
        due("one", pieces("re499"), 1);
        due("rook is black", piece(0, 1) * 10 + piece(0, 0), 12);
        due("bishop, knight, pawn behind it", pieces("be300;ne200;pe100"), 3);
        due("bishop", piece(1, 0), 3);
        due("knight", piece(2, 0), 4);
        due("pawn", piece(3, 0), 5);
        due("PIECES", b.count(0), 4);
        due("a quarter day evicts three", b.quarters(1), 3);
        due("a SQUARE that has become free", pieces("Ke305"), 1);
        due("undone no more", b.count(9), 0);
        b.passes();
        due("refused", pieces("Ke305"), -2);
        due("undo() stays", b.count(9), 1);
        due("an empty pieces()", b.pieces(), 0);
        due("undo() stays", b.count(9), 1);
        due("another one", pieces("Ka505"), 1);
        due("undo() goes", b.count(9), 0);
    }

    private static void linesThatFail() {
        promise = 4;
        String[] texts = {"x", "1", ";", "K", "KK", "Kf", "Ka", "Ka0", "Ka6", "Ka1", "Ka1x", "Ka10", "Ka10x", "Ka100x",
            "Ka100;", "Ka100;x", "Ka100;;", "Ka100;Ka", "Ka100;Ka1", "Ka100;Ka100", "Ka100;Qb1", "Ka100 ", "\u0000", "A"};
        int[] at = {0, 0, 0, 1, 1, 1, 2, 2, 2, 3, 3, 4, 4, 5, 6, 6, 6, 8, 7, 7, 9, 5, 0, 0};
        b = new RentBoard();
        for (int i = 0; i < texts.length; i++) {
            due("pieces of " + texts[i], pieces(texts[i]), -1 - at[i]);
        }
        due("more than 47", pieces(EIGHT + ";"), -48);
        due("more than 47, what can't stand", pieces(EIGHT + "xyz"), -48);
        due("more than 47, a ninth", pieces(EIGHT + ";Ke500"), -48);
        due("a fault ahead of 47", pieces(EIGHT.substring(0, 40) + "f" + EIGHT.substring(41) + ";"), -41);
        due("a fault at the last sign", pieces(EIGHT.substring(0, 46) + "x;"), -47);
        due("nothing came", b.count(0), 0);
        due("three", pieces("Ka100;Kb100;Kc100"), 3);
        due("not free", pieces("Qe500;Qb100"), -8);
        due("not free, once its digit is there", pieces("Qe500;Qb"), -9);
        due("not free ahead of what else fails", pieces("Qe500;Qb1x"), -8);
        due("no room for a sixth", pieces("Qa200;Qb200;Qc200;Qd200;Qe200;Qa300"), -31);
        due("no room, its end", pieces("Qa200;Qb200;Qc200;Qd200;Qe200;"), -31);
        due("room for five", pieces("Qa200;Qb200;Qc200;Qd200;Qe200"), 5);
        due("eight", b.count(0), 8);
    }

    private static void rulesThatFail() {
        promise = 5;
        String[] texts = {"z", "x+", "x<y<d", "(x", "(((((x", "1000", "x y", ")", "x)", "()", "(x))", "x(", "2x", "xx", "x2",
            "+x", "*x", "x**y", "x+*y", "<", "x<", "x<=y", "x=y=d", "(x<y)<d>n", "-", "--", "x-", "(x<y<d)", "~x", "x~y",
            "((((x))))1", "123(", "12a", "x\u00ff", "(x<y)<(d<n)<k", "X", "x;"};
        int[] at = {0, 2, 3, 2, 4, 3, 1, 0, 1, 1, 3, 1, 1, 1, 1,
            0, 0, 2, 2, 0, 2, 2, 3, 7, 1, 2, 2, 4, 0, 1,
            9, 3, 2, 1, 11, 0, 1};
        club(5, "Ka100", "7");
        for (int i = 0; i < texts.length; i++) {
            due("rule of " + texts[i], rule(texts[i]), -1 - at[i]);
            due("RENT by the rule that stayed", rent(0, 0), 7);
        }
        String forty = times("1+", 19) + "11";
        due("40 signs", rule(forty), 0);
        due("their RENT", rent(0, 0), 20);
        due("41 signs", rule(forty + "1"), -41);
        due("41 signs, the first 40 can't end", rule(times("1+", 20) + "1"), -41);
        due("40 signs that can't end", rule(times("1+", 20)), -41);
        due("41 signs, the 41st can't stand", rule(forty + "?"), -41);
        due("80 signs", rule(times("1+", 40)), -41);
        due("a fault at the 40th", rule(times("1+", 19) + "1*?"), -41);
        due("a fault at the 39th", rule(times("1+", 19) + "**1"), -39);
        due("39 signs", rule(times("1+", 19) + "5"), 0);
        due("an empty one", b.rule(), 0);
        due("none", rent(0, 0), 1);
    }

    private static void rulesThatStand() {
        String[] texts = {"7", "007", "20", "21", "999", "0-1", "-5", "--5", "---5+9", "3--5", "1+2*3", "(1+2)*3", "20-3-4",
            "20-(3-4)", "19/4", "-19/4+9", "9-19/4", "16/4/2", "16/(4/2)", "2*7/4", "7/4*2", "5/0+1", "0/5+2", "2<3", "3<2",
            "3<3", "3>2", "2>2", "2=2", "2=3", "1+1=2", "2*(1<2)+3", "1<2+3", "5-4>0-1", "((((7))))", "(1<2)<(1<3)", "(1<2)=(1<3)",
            "-(3-9)", "2*-3+9", "-2*-3", "8/-3+9", "(1)+(2)", "-(-(4))", "9-(2<3)-1", "3*(2=2)*(4>3)", "999*999*999*999>0",
            "999*999*999*5<0"};
        int[] due = {7, 7, 20, 20, 20, 0, 0, 5, 4, 8, 7, 9, 13,
            20, 4, 5, 5, 2, 8, 3, 2, 1, 2, 1, 0,
            0, 1, 0, 1, 0, 1, 5, 1, 1, 7, 0, 1,
            6, 3, 6, 7, 3, 4, 7, 3, 999 * 999 * 999 * 999 > 0 ? 1 : 0,
            999 * 999 * 999 * 5 < 0 ? 1 : 0};
        club(5, "Ka100", "");
        for (int i = 0; i < texts.length; i++) {
            due("rule of " + texts[i], rule(texts[i]), 0);
            due("RENT by " + texts[i], rent(0, 12), due[i]);
        }
        // -2147483648 by -1 is itself in ints: 2048 times 1024 times 1024.
        due("the least int", rule("(-512*512*128*64/-1=-512*512*128*64)*9"), 0);
        due("the least int by -1", rent(0, 12), 9);
    }

    private static void thingsOfRules() {
        club(5, "Kb100;qc200;Pd399", "x");
        due("x", rent(0, at("d2")), 3);
        rule("y");
        due("y", rent(0, at("d2")), 1);
        rule("d");
        due("d of the middle", rent(0, at("c3")), 0);
        due("d by column", rent(0, at("d3")), 1);
        due("d by row", rent(0, at("c1")), 2);
        due("d, the greater", rent(0, at("d5")), 2);
        due("d of a corner", rent(0, at("a1")), 2);
        rule("k");
        due("k", rent(0, at("b1")), 1);
        due("k not of its own", rent(0, at("b2")), 1);
        due("k of two", rent(0, at("d2")), 2);
        due("k around whom it would stand on", rent(0, at("c2")), 1);
        due("k at the edge", rent(2, at("a2")), 1);
        due("k not past an edge", rent(0, at("e4")), 1);
        due("k of none", rent(0, at("a5")), 0);
        rule("q+10*c");
        due("q, c of a white king", rent(0, 0), 0);
        due("q, c of a black queen", rent(1, 0), 11);
        due("q of a pawn", rent(2, 0), 5);
        rule("n");
        for (int day = 0; day < 9; day++) {
            due("n", rent(2, 0), day % 7);
            b.wages(0, 9);
            b.wages(1, 9);
            due("all pay", b.quarters(1), 0);
        }
    }

    private static void readings() {
        club(6, "Kb107;qc200;Pd399", "");
        due("KIND", piece(1, 0), 1);
        due("SIDE", piece(1, 1), 1);
        due("SQUARE", piece(1, 2), at("c2"));
        due("PURSE", piece(2, 3), 99);
        due("RENT", piece(0, 4), 1);
        due("RENT", piece(1, 4), 2);
        due("another what", piece(0, 5), THROWN);
        due("another what", piece(0, -1), THROWN);
        due("another what", piece(0, LEAST), THROWN);
        due("none such", piece(3, 0), THROWN);
        due("none such", piece(-1, 0), THROWN);
        due("none such", piece(MOST, 4), THROWN);
        due("one goes", b.quarters(1), 1);
        due("KIND of one OUT", piece(1, 0), 1);
        due("SIDE of one OUT", piece(1, 1), 1);
        due("SQUARE of one OUT", piece(1, 2), 25);
        due("PURSE of one OUT", piece(1, 3), 0);
        due("RENT of one OUT", piece(1, 4), 0);
        promise = 7;
        due("the piece", square(at("b1")), 0);
        due("the piece", square(at("d3")), 2);
        due("none any more", square(at("c2")), 8);
        due("none", square(24), 8);
        due("none such", square(25), THROWN);
        due("none such", square(-1), THROWN);
        due("none such", square(MOST), THROWN);
        promise = 8;
        due("RENT of its own", rent(0, at("b1")), 1);
        due("RENT of the middle", rent(0, at("c3")), 3);
        due("RENT where another stands", rent(0, at("d3")), 2);
        due("OUT", rent(1, 0), THROWN);
        due("none such", rent(3, 0), THROWN);
        due("none such", rent(-1, 0), THROWN);
        due("none such", rent(0, 25), THROWN);
        due("none such", rent(0, -1), THROWN);
        due("nothing changed", b.count(3), 1);
    }

    private static void sheets() {
        club(9, "Ka111;Qb122;rc133", "");
        due("ints", b.sheet(2, 3, 5, 100), 5 + 99 + 99);
        due("PURSE 0", piece(0, 3), 5);
        due("PURSE 1", piece(1, 3), 99);
        due("bytes", b.sheet(0, 3, 130, 126), 0 + 0 + 99);
        due("bytes with their sign", b.sheet(0, 3, 127, 1), 99);
        due("bytes", b.sheet(0, 3, 255, 1), 0 + 0 + 1);
        due("bytes, the lowest bits", b.sheet(0, 2, 260, 256), 8);
        due("the one behind has 0", piece(2, 3), 0);
        due("shorts", b.sheet(1, 3, 260, -250), 99 + 10 + 0);
        due("shorts, the lowest bits", b.sheet(1, 3, 65538, 65536), 6);
        due("shorts with their sign", b.sheet(1, 1, 32768, 0), 0);
        due("ints beyond shorts", b.sheet(2, 1, 65538, 0), 99);
        due("ints that wrap", b.sheet(2, 3, MOST, 1), 99);
        due("ints below 0", b.sheet(2, 3, -7, 5), 0 + 0 + 3);
        due("more than there are", b.sheet(2, 8, 1, 1), 6);
        due("none told", b.sheet(2, 0, 50, 1), 0);
        b.sheet(2, 8, 1, 1);
        due("below 0", b.sheet(0, -1, 9, 9), -2);
        due("below 0", b.sheet(2, LEAST, 9, 9), -2);
        due("another kind", b.sheet(4, 1, 9, 9), -1);
        due("another kind, below 0", b.sheet(-1, -1, 9, 9), -1);
        due("above 8", b.sheet(2, 9, 9, 9), -1);
        due("missing, above 8", b.sheet(3, 9, 9, 9), -1);
        due("nothing changed", b.count(5) * 100 + b.count(6), 303);
        b.passes();
        due("missing", b.sheet(3, 2, 9, 9), -3);
        due("all 0", b.count(5) + b.count(6), 0);
        due("nothing to undo of it", b.undo(), 0);
        due("PURSES are back", b.count(5) * 100 + b.count(6), 303);
        due("missing, below 0", b.sheet(3, -5, 9, 9), -3);
        b.quarters(1);
        due("all are OUT", b.count(1), 0);
        due("those OUT stay 0", b.sheet(2, 3, 9, 0), 0);
        rowIs("the ROW stays", 0);
        b = new RentBoard();
        due("of no PIECES", b.sheet(2, 3, 9, 0), 0);
    }

    // ---- moves, quarter days

    private static void moves() {
        club(10, "Ka160;Pb430;rb550;nc460", "");
        due("none such", b.moves(4, 0), -1);
        due("none such", b.moves(-1, 0), -1);
        due("none such", b.moves(0, 25), -1);
        due("none such ahead of the TURN", b.moves(2, -1), -1);
        due("not its TURN", b.moves(2, at("b4")), -2);
        due("it can't", b.moves(0, at("a3")), -3);
        due("it can't stay", b.moves(0, at("a1")), -3);
        due("nothing changed", b.count(2) + b.count(4) + b.count(9) + b.count(10), 0);
        due("a MOVE", b.moves(0, at("a2")), 0);
        rowIs("a MOVE", 60, 0);
        due("TURN", b.count(2), 1);
        due("MOVES", b.count(4), 1);
        due("a capture", b.moves(2, at("b4")), 30);
        rowIs("a capture", 80, 2);
        due("OUT", piece(1, 2), 25);
        due("its PURSE", piece(1, 3), 0);
        due("on the SQUARE", square(at("b4")), 2);
        due("none on the one left", square(at("b5")), 8);
        due("OUT can't", b.moves(1, at("b5")), -2);
        b.passes();
        b.moves(3, at("a3"));
        rowIs("a knight's", 60, 4);
        due("at most 99", b.moves(0, at("a3")), 39);
        rowIs("at most 99", 99, 0);
        club(10, "Pa420;Pb410;pc205;rc588;Ke100", "");
        b.moves(0, at("a5"));
        rowIs("a white pawn to the last row", 20, 1);
        due("a queen", piece(0, 0), 1);
        b.moves(2, at("c1"));
        rowIs("a black pawn to the last row", 5, 1);
        b.moves(1, at("c5"));
        rowIs("by a capture", 98, 1);
        b.moves(2, at("c2"));
        due("it goes as a queen", b.moves(0, at("e1")), -3);
        due("it goes as a queen", b.moves(0, at("a1")), 0);
        club(10, "Pa499;pa205;Pa112", "");
        b.passes();
        due("a pawn can't take ahead", b.moves(1, at("a1")), -3);
        due("told on the last row it stays a pawn", pieces("Pc511;pd111"), 2);
        due("a pawn", piece(3, 0), 5);
        due("it goes nowhere", b.goes(3), 0);
        due("nor does the black one", b.goes(4), 0);
    }

    private static void quarterDays() {
        club(11, "Kc399;Qa101;rb200;nb302;pe403", "");
        due("another n", b.quarters(61), -1);
        due("another n", b.quarters(-1), -1);
        due("another n", b.quarters(LEAST), -1);
        due("QUARTER", b.count(3) + b.count(9) + b.count(10), 0);
        due("none", b.quarters(0), 0);
        rowIs("none", 0);
        due("kept", b.count(9), 1);
        due("one", b.quarters(1), 1);
        rowIs("one", 3 + 1 + 2 + 1);
        due("OUT", piece(2, 2), 25);
        due("just enough", piece(1, 3), 0);
        due("not OUT", piece(1, 2), 0);
        due("QUARTER", b.count(3), 1);
        due("TURN", b.count(2), 0);
        due("all the others but the king", b.quarters(3), 3);
        rowIs("three days", 9 + 2);
        due("sixty", b.quarters(60), 1);
        rowIs("sixty", 87);
        due("QUARTER", b.count(3), 64);
        club(11, "Ka100;Kb101;kc105", "k");
        due("all as all is ahead of it", b.quarters(1), 2);
        rowIs("the one OUT is still around", 1);
        due("none around", b.quarters(1), 0);
        rowIs("none around", 0);
        club(11, "Ka104", "5");
        due("what is left is not paid", b.quarters(1), 1);
        rowIs("what is left is not paid", 0);
        due("its PURSE", b.count(5), 0);
    }

    private static void passesGivesWages() {
        club(12, "Ka150;Qb160;rc198;pe402", "");
        due("black's", b.passes(), 1);
        due("TURN", b.count(2), 1);
        due("white's", b.passes(), 0);
        due("no MOVES", b.count(4), 0);
        promise = 13;
        due("PURSE of the one", b.gives(0, 1, 39), 11);
        due("of the other", piece(1, 3), 99);
        due("above 99", b.gives(0, 1, 1), -4);
        due("to the other SIDE", b.gives(0, 2, 1), 10);
        due("99", piece(2, 3), 99);
        due("not so much", b.gives(0, 1, 11), -3);
        due("not so much ahead of above 99", b.gives(0, 2, 99), -3);
        due("all of it", b.gives(0, 3, 10), 0);
        due("99", b.gives(1, 0, 99), 0);
        due("like ones", b.gives(1, 1, 5), -1);
        due("n 0", b.gives(0, 1, 0), -1);
        due("n 100", b.gives(0, 1, 100), -1);
        due("n below 0", b.gives(0, 1, LEAST), -1);
        due("none such", b.gives(4, 1, 5), -1);
        due("none such", b.gives(0, -1, 5), -1);
        due("one goes OUT", b.quarters(1), 1);
        due("OUT", b.gives(1, 0, 5), -2);
        due("to one OUT", b.gives(0, 1, 5), -2);
        due("n 0 ahead of OUT", b.gives(0, 1, 0), -1);
        promise = 14;
        due("white's that are not OUT", b.wages(0, 9), 1);
        due("at most 99", piece(0, 3), 99);
        due("none of one OUT", piece(1, 3), 0);
        due("black's", b.wages(1, 3), 2);
        due("a PURSE", piece(3, 3), 14);
        int kept = b.count(9);
        due("another SIDE", b.wages(2, 3), -1);
        due("another SIDE", b.wages(-1, 3), -1);
        due("another n", b.wages(0, 0), -1);
        due("another n", b.wages(0, 10), -1);
        due("none to undo of them", b.count(9), kept);
        b = new RentBoard();
        due("none of a SIDE", b.wages(0, 3), 0);
        due("done, so it can be undone", b.undo(), 0);
        pieces("Ka107;Kb100");
        due("all that it has", b.gives(0, 1, 7), 0);
        due("done, so it can be undone", b.undo(), 0);
        due("PURSES", piece(0, 3) * 10 + piece(1, 3), 70);
    }

    private static void games() {
        club(15, "Ka150;Qb160;rc197;pe402", "");
        due("no ACTS", b.game(), 0);
        rowIs("no ACTS", 0, 4);
        due("nothing to undo", b.count(9), 0);
        due("gives() is refused", game("m0a2g0199w12/"), 1);
        rowIs("gives() is refused", 1, 4);
        due("nothing behind it", piece(2, 3), 97);
        due("TURN", b.count(2), 1);
        club(15, "Ka150;Qb160;rc197;pe402", "");
        due("all kinds", game("m0a2/g0105w12n1"), 5);
        rowIs("all kinds", 0, 4);
        due("MOVES", b.count(4), 1);
        due("TURN", b.count(2), 0);
        due("QUARTER", b.count(3), 1);
        due("PURSE 0", piece(0, 3), 50 - 5 - 1);
        due("PURSE 1", piece(1, 3), 60 + 5 - 1);
        due("PURSE 2", piece(2, 3), 98);
        due("PURSE 3", piece(3, 3), 2 + 2 - 1);
        due("as one", b.count(9), 1);
        due("up to one that can't be", game("n3m2c2n1"), 1);
        rowIs("up to one that can't be", 1, 3 + 1 - 0);
        due("QUARTER", b.count(3), 4);
        due("kept", b.count(9), 2);
        due("none can be", game("w00n1"), 0);
        rowIs("none can be", 1, 4);
        due("not kept", b.count(9), 2);
        due("n 0", game("n0"), 1);
        due("kept", b.count(9), 3);
        due("all of it", b.undo(), 2);
        due("all of it", b.undo(), 1);
        due("QUARTER", b.count(3), 1);
        due("all of it", b.undo(), 0);
        due("PURSES", b.count(5) * 1000 + b.count(6), 110099);
        due("TURN", b.count(2), 0);
        due("a piece that is none such", game("m8a1"), 0);
        due("60 ACTS", game(times("/", 60)), 60);
        due("61 ACTS", game(times("/", 61)), -61);
        due("30 of two signs", game(times("n0", 30)), 30);
    }

    private static void gamesThatFail() {
        club(15, "Ka150;Qb160", "");
        String[] texts = {"x", "m", "mm", "m0", "m0f", "m0A", "m0a", "m0a0", "m0a6", "n", "nx", "n12", "g", "ga", "g0", "g0x",
            "g01", "g01x", "g010", "g010x", "g01011", "w", "wx", "w0", "w0x", "w011", "//x", "/ /", "n1;n1", "m0a2\u0000"};
        int[] at = {0, 1, 1, 2, 2, 2, 3, 3, 3, 1, 1, 2, 1, 1, 2, 2,
            3, 3, 4, 4, 5, 1, 1, 2, 2, 3, 2, 1, 2, 4};
        for (int i = 0; i < texts.length; i++) {
            due("game of " + texts[i], game(texts[i]), -1 - at[i]);
        }
        due("an ACT over the 60th", game(times("/", 58) + "m0a1"), -61);
        due("60 signs, the end too early", game(times("/", 59) + "n"), -61);
        due("a fault at the 60th", game(times("/", 59) + "x/"), -60);
        due("the 61st can't stand", game(times("/", 60) + "x"), -61);
        due("nothing is done", b.count(2) + b.count(3) + b.count(4) + b.count(9) + b.count(10), 0);
    }

    private static void undone() {
        club(16, "Pa450;rb560;kc100", "");
        due("a MOVE", b.moves(0, at("b5")), 49);
        due("quarters", b.quarters(1), 1);
        due("passes", b.passes(), 0);
        due("gives refused", b.gives(0, 1, 5), -2);
        due("wages", b.wages(0, 3), 1);
        due("kept", b.count(9), 4);
        due("wages undone", b.undo(), 3);
        due("PURSE", piece(0, 3), 98);
        due("passes undone", b.undo(), 2);
        due("TURN", b.count(2), 1);
        due("quarters undone", b.undo(), 1);
        due("QUARTER", b.count(3), 0);
        due("stands again", piece(2, 2), at("c1"));
        due("a MOVE undone", b.undo(), 0);
        due("KIND", piece(0, 0), 5);
        due("SQUARE", piece(0, 2), at("a4"));
        due("PURSE", piece(0, 3), 50);
        due("the one captured", piece(1, 2), at("b5"));
        due("its PURSE", piece(1, 3), 60);
        due("MOVES", b.count(4), 0);
        due("none", b.undo(), -1);
        rowIs("the ROW stays", 3 - 2);
        due("gives", b.gives(0, 1, 5), 45);
        due("gives undone", b.undo(), 0);
        due("PURSE", piece(1, 3), 60);
        for (int i = 1; i <= 14; i++) {
            b.quarters(0);
            b.passes();
            b.undo();
            due("kept", b.count(9), Math.min(i, 11));
        }
        b.wages(0, 1);
        due("12 are kept", b.count(9), 12);
        rule("1");
        b.saw(0, 1);
        b.heard(0, 1);
        for (int i = 11; i >= 0; i--) {
            due("undo", b.undo(), i);
        }
        due("no more", b.undo(), -1);
        due("THE RULE stays", piece(0, 4), 1);
        due("what was heard and seen stays", b.count(7) + b.count(8), 2);
    }

    // ---- where one can go

    private static void goes() {
        club(17, "Kc300;Qa100;Rc500;Be300;nb500;pd200;pc400;Pa300", "");
        due("a king", b.goes(0), bits("b2 c2 d2 b3 d3 b4 c4 d4"));
        rowIs("a king", 8, 2);
        due("a queen", b.goes(1), bits("b1 c1 d1 e1 a2 b2"));
        rowIs("a queen", 6, 0);
        due("a rook", b.goes(2), bits("b5 d5 e5 c4"));
        rowIs("a rook", 4, 2);
        due("a bishop", b.goes(3), bits("d2 d4"));
        rowIs("a bishop", 2, 1);
        due("a knight", b.goes(4), bits("a3 c3 d4"));
        rowIs("a knight", 3, 2);
        due("a black pawn", b.goes(5), bits("d1"));
        rowIs("a black pawn", 1, 0);
        due("a black pawn that is blocked", b.goes(6), 0);
        rowIs("a black pawn that is blocked", 0, 0);
        due("a white pawn", b.goes(7), bits("a4"));
        due("none such", b.goes(8), -1);
        due("none such", b.goes(-1), -1);
        rowIs("the ROW stays", 1, 0);
        b.quarters(1);
        due("OUT", b.goes(0), -2);
        club(17, "Na100;ne500;pb200;Pa300;kb400;Pc100;pd200", "");
        due("a knight in the corner", b.goes(0), bits("b3 c2"));
        due("a knight in the other corner", b.goes(1), bits("c4 d3"));
        due("a black pawn takes slantwise", b.goes(2), bits("a1 b1 c1"));
        rowIs("a black pawn takes slantwise", 3, 2);
        due("a white pawn takes slantwise", b.goes(3), bits("a4 b4"));
        rowIs("a white pawn takes slantwise", 2, 1);
        due("both slants", b.goes(5), bits("b2 c2 d2"));
        rowIs("both slants", 3, 2);
        due("not past an edge", b.goes(4), bits("a3 b3 c3 a4 c4 a5 b5 c5"));
    }

    private static void threats() {
        club(18, "Kc300;Qa100;rc500;be500;nb500;pd400;pb200;qc100", "");
        due("whosever TURN", b.threats(0), 1 << 2 | 1 << 4 | 1 << 5 | 1 << 7);
        rowIs("whosever TURN", 4);
        due("two of all", b.threats(1), 1 << 6 | 1 << 7);
        rowIs("two of all", 2);
        due("behind another", b.threats(6), 3);
        due("by none", b.threats(2), 1 * 0);
        due("none such", b.threats(8), -1);
        due("none such", b.threats(LEAST), -1);
        rowIs("the ROW stays", 0);
        b.quarters(1);
        due("OUT", b.threats(0), -2);
    }

    private static void hops() {
        club(19, "Ka100;Rb100;na200;Pc200;pc400;Be100", "");
        due("like ones", b.hops(0, 0), 0);
        rowIs("like ones");
        due("a king", b.hops(0, at("c4")), 3);
        rowIs("a king", at("b2"), at("b3"), at("c4"));
        due("onto one of its SIDE", b.hops(0, at("b1")), -2);
        due("onto one of the other SIDE", b.hops(0, at("a2")), 1);
        rowIs("onto one of the other SIDE", at("a2"));
        due("not past another", b.hops(0, at("a3")), 2);
        rowIs("not past another", at("b2"), at("a3"));
        due("a rook", b.hops(1, at("a5")), 2);
        rowIs("a rook", at("b5"), at("a5"));
        due("a pawn that is blocked at last", b.hops(3, at("c5")), -2);
        due("a pawn", b.hops(3, at("c3")), 1);
        due("a pawn not onto another ahead", b.hops(3, at("c4")), -2);
        due("a pawn not slantwise", b.hops(3, at("d3")), -2);
        due("a bishop of the other colour", b.hops(5, at("d1")), -2);
        due("none such", b.hops(6, 0), -1);
        due("none such", b.hops(0, 25), -1);
        due("none such", b.hops(0, -1), -1);
        due("nothing changed", piece(0, 2), 0);
        club(19, "Pc200;pb400;na500", "");
        due("a pawn slantwise at last", b.hops(0, at("b4")), 2);
        rowIs("a pawn slantwise at last", at("c3"), at("b4"));
        due("a pawn stays a pawn", b.hops(0, at("a1")), -2);
        due("a pawn to the last row", b.hops(0, at("c5")), 3);
        due("no further", b.hops(0, at("d5")), -2);
        b.quarters(1);
        due("OUT", b.hops(0, at("c2")), -2);
        due("none such ahead of OUT", b.hops(0, 25), -1);
    }

    private static void ways() {
        club(20, "Ka100;Rb100;na200;Pc200;Bc400", "");
        due("none", b.ways(0, 0, 0), 1);
        due("none elsewhere", b.ways(0, 1, 0), 0);
        due("one", b.ways(0, at("b2"), 1), 1);
        due("one onto its SIDE", b.ways(0, at("b1"), 1), 0);
        due("onto one of the other SIDE", b.ways(0, at("a2"), 1), 1);
        due("there and back, not past another", b.ways(0, 0, 2), 1);
        due("onto the other at the last", b.ways(0, at("a2"), 2), 1);
        due("past any as often as it will", b.ways(0, at("b2"), 3), 5);
        due("a rook", b.ways(1, at("e5"), 2), 2);
        due("a pawn", b.ways(3, at("c3"), 1), 1);
        due("a pawn no further", b.ways(3, at("c4"), 2), 0);
        due("above 4", b.ways(0, 0, 5), -1);
        due("below 0", b.ways(0, 0, -1), -1);
        due("none such", b.ways(5, 0, 1), -1);
        due("none such", b.ways(0, 25, 1), -1);
        b.quarters(1);
        due("OUT", b.ways(0, 0, 0), -2);
        due("another n ahead of OUT", b.ways(0, 0, 5), -1);
        club(20, "Qc300", "");
        due("a queen alone, there and back", b.ways(0, at("c3"), 2), 16);
        club(20, "Na100", "");
        due("a knight alone, four", b.ways(0, at("a1"), 4), 2 * 2 + 2 * 2 + 8);
        due("a knight alone, three", b.ways(0, at("a1"), 3), 0);
    }

    // ---- rents

    private static void owes() {
        club(21, "Kc302;Qa101;Rb201;nb309;pe400", "");
        due("white's", b.owes(0), 3 + 1 + 2);
        rowIs("white's", 4, 1 | 1 << 2);
        due("black's", b.owes(1), 2 + 1);
        rowIs("black's", 9, 1 << 4);
        due("another SIDE", b.owes(2), -1);
        due("another SIDE", b.owes(-1), -1);
        rowIs("the ROW stays", 9, 1 << 4);
        b.quarters(1);
        due("of those that are not OUT", b.owes(0), 1);
        rowIs("of those that are not OUT", 0, 1 << 1);
    }

    private static void laterAndWhen() {
        club(22, "Kc307;Qa103;ne502;rb299", "");
        due("now", b.later(0, 0), 7);
        rowIs("now", 15, 111);
        due("behind 2", b.later(0, 2), 1);
        rowIs("behind 2", 15, 1 + 1 + 0 + 95);
        due("behind 3", b.later(0, 3), 100);
        rowIs("behind 3", 2 | 8, 0 + 0 + 93);
        due("behind 60", b.later(3, 60), 100);
        rowIs("behind 60", 0, 0);
        due("above 60", b.later(0, 61), -1);
        due("below 0", b.later(0, -1), -1);
        due("none such", b.later(4, 0), -1);
        rowIs("the ROW stays", 0, 0);
        due("QUARTER stays", b.count(3), 0);
        promise = 23;
        due("the third", b.when(0), 3);
        rowIs("the third", 2);
        due("the fourth", b.when(1), 4);
        rowIs("the fourth", 1);
        due("the fiftieth", b.when(3), 50);
        due("none such", b.when(4), -1);
        b.quarters(3);
        promise = 22;
        due("OUT", b.later(0, 1), -2);
        due("another n ahead of OUT", b.later(0, 61), -1);
        promise = 23;
        due("OUT", b.when(0), -3);
        rule("0");
        due("on none", b.when(1), -2);
        rule("1");
        b.sheet(2, 4, 60, 0);
        due("not on the 60th", b.when(1), -2);
        b.sheet(2, 4, 59, 0);
        due("on the 60th", b.when(1), 60);
    }

    private static void needs() {
        club(24, "Kc307;Qa103;ne502;rb299", "");
        due("one day", b.needs(0, 1), 3);
        due("twenty days", b.needs(0, 20), 60);
        due("in place of its own", b.needs(3, 20), 40);
        due("below 1", b.needs(0, 0), -1);
        due("above 20", b.needs(0, 21), -1);
        due("none such", b.needs(4, 1), -1);
        rule("20");
        due("by none", b.needs(0, 5), -2);
        due("not by none", b.needs(0, 4), 80);
        rule("11");
        due("99", b.needs(0, 9), 99);
        rule("5*(n<5)+4");
        due("98", b.needs(0, 12), 10 * 9 + 2 * 4);
        due("102", b.needs(0, 13), -2);
        rule("k*5");
        b.sheet(2, 4, 0, 0);
        due("around it while they last", b.needs(0, 4), 5);
        rule("n");
        b.sheet(2, 4, 99, 0);
        due("QUARTERS go on", b.needs(0, 8), 21);
        b.quarters(1);
        due("QUARTERS go on", b.needs(0, 6), 21);
        rule("20");
        b.quarters(5);
        due("OUT", b.needs(0, 1), -3);
        due("another n ahead of OUT", b.needs(0, 21), -1);
    }

    private static void cheapest() {
        club(25, "Kc207;Pa100;nb199;rd100", "");
        due("of equal ones the first", b.cheapest(0), at("c1"));
        rowIs("of equal ones the first", 1, 2);
        due("only two SQUARES", b.cheapest(1), at("a1"));
        rowIs("only two SQUARES", 1, 1);
        due("none such", b.cheapest(4), -1);
        due("none such", b.cheapest(-1), -1);
        rule("9-3*(x=2)*(y=1)");
        due("its own", b.cheapest(0), at("c2"));
        rowIs("its own", 6, 6);
        rule("20*(y>0)+x");
        due("not where another stands", b.cheapest(0), at("c1"));
        rule("k");
        due("as rent()", b.cheapest(0), at("b3"));
        rowIs("as rent()", 0, 2);
        rule("20");
        due("all alike", b.cheapest(0), at("c1"));
        rowIs("all alike", 20, 20);
        b.quarters(1);
        due("OUT", b.cheapest(0), -2);
    }

    private static void wanders() {
        club(26, "Kc307;Pa400;nb500;Re100", "");
        due("one", b.wanders(0, 1), 2);
        rowIs("one", at("b2"));
        due("two", b.wanders(0, 2), 3);
        rowIs("two", at("b2"), at("a1"));
        due("six", b.wanders(0, 6), 7);
        rowIs("six", at("b2"), 0, 0, 0, 0, 0);
        due("a pawn stays a pawn", b.wanders(1, 3), 3);
        rowIs("a pawn stays a pawn", at("a4"), at("a4"), at("a4"));
        rule("20-y");
        due("a pawn on the last row", b.wanders(1, 3), 48);
        rowIs("a pawn on the last row", at("a5"), at("a5"), at("a5"));
        rule("n*y+(n=2)*x");
        due("QUARTER goes on", b.wanders(0, 3), 0);
        rowIs("QUARTER goes on", at("b2"), at("a1"), at("a1"));
        due("QUARTER stays", b.count(3), 0);
        due("none such", b.wanders(4, 1), -1);
        due("below 1", b.wanders(0, 0), -1);
        due("above 6", b.wanders(0, 7), -1);
        rowIs("the ROW stays", at("b2"), at("a1"), at("a1"));
        rule("20*(x=4)*(y=1)+3");
        due("past what is dear", b.wanders(3, 1), 3);
        rowIs("past what is dear", 0);
        b.quarters(1);
        due("OUT", b.wanders(1, 1), -2);
        due("another n ahead of OUT", b.wanders(1, 7), -1);
    }

    private static void stays() {
        club(27, "Kc304;Pa100;ne500", "");
        due("four days", b.stays(0, 4), 0x1FFFFFF & ~bits("a1 e5 b2 c2 d2 b3 c3 d3 b4 c4 d4"));
        rowIs("four days", 25 - 2 - 9);
        due("two days", b.stays(0, 2), 0x1FFFFFF & ~bits("a1 e5 c3"));
        rowIs("two days", 22);
        due("five days", b.stays(0, 5), 0);
        rowIs("five days", 0);
        due("below 1", b.stays(0, 0), -1);
        due("above 20", b.stays(0, 21), -1);
        due("none such", b.stays(3, 1), -1);
        rule("(n=2)*5*(x<4)");
        due("QUARTER goes on", b.stays(0, 2), 0x1FFFFFF & ~bits("a1 e5"));
        due("QUARTER goes on", b.stays(0, 3), bits("e1 e2 e3 e4"));
        rule("k*5");
        due("others stay", b.stays(0, 20), 0x1FFFFFF & ~bits("a1 a2 b1 b2 e5 d4 d5 e4"));
        rule("");
        b.quarters(1);
        due("OUT", b.stays(1, 1), -2);
        due("another n ahead of OUT", b.stays(1, 0), -1);
    }

    // ---- what pays best

    private static void best() {
        club(28, "Kc350;Rb120;nd409;pb505;pa230", "");
        due("a capture", b.best(), at("d4"));
        rowIs("a capture", 1000 + (59 - 2) + (20 - 1) - (5 - 1) - (30 - 1));
        due("nothing changed", b.count(2) + b.count(4) + b.count(9), 0);
        b.passes();
        due("black's", b.best(), 400 + at("b1"));
        rowIs("black's", 1000 + (9 - 2) + (5 - 1) + (50 - 1) - (50 - 3));
        club(28, "pa250", "");
        due("none", b.best(), -2);
        b.passes();
        due("black's", b.best(), at("a1"));
        rowIs("black's", 1000 + 50 - 1);
        club(28, "Ka100;kc205", "");
        due("OUT by either way", b.best(), at("b1"));
        rowIs("OUT by either way", 1000 - 3);
    }

    private static void looks() {
        club(29, "Kc350;Rb120;nd409;pb505;pa230", "");
        due("none", b.looks(0), 1000 + 47 + 19 - 7 - 4 - 29);
        rowIs("none");
        due("one", b.looks(1), 1043);
        rowIs("one", at("d4"));
        due("above 2", b.looks(3), -1);
        due("below 0", b.looks(-1), -1);
        rowIs("the ROW stays", at("d4"));
        club(29, "Ra150;rc120;nc399", "");
        due("one takes", b.looks(1), 1000 + 69 - 96);
        rowIs("one takes", at("c1"));
        club(29, "Ra110;rc120;pb250", "");
        due("what would be taken back is left alone", b.looks(2), 1000 + (10 - 1) - (20 - 1) - (50 - 1));
        rowIs("what would be taken back is left alone", at("a2"), 200 + at("b1"));
        due("but for one MOVE", b.looks(1), 1000 + (30 - 1) - (50 - 2));
        rowIs("but for one MOVE", at("c1"));
        due("nothing changed", b.count(2) + b.count(4) + b.count(9), 0);
        club(29, "Ra110;pb105", "");
        due("no answer", b.looks(2), 1000 + 15 - 1);
        rowIs("no answer", at("b1"));
        club(29, "Ka209;ra199;pe505", "20*(y+x>0)");
        due("the first piece to the first SQUARE", b.looks(2), 1000 + 99);
        rowIs("the first piece to the first SQUARE", 0, 200 + at("e4"));
        b.passes();
        due("at most 99, less RENT", b.looks(2), 1000 + 99 - 20);
        rowIs("at most 99, less RENT", 100 + at("a2"));
        club(29, "pb105", "");
        due("no MOVE", b.looks(2), 1000 - 4);
        rowIs("no MOVE");
        due("no MOVE", b.looks(1), 1000 - 4);
        rowIs("no MOVE");
        b = new RentBoard();
        due("no PIECES", b.looks(2), 1000);
    }

    private static void choices() {
        club(30, "Ka100;Pe400;rb200;nd500;Pa200", "");
        due("white's", b.choices(), 2 + 2 + 1);
        rowIs("white's", 3, 2);
        b.passes();
        due("black's", b.choices(), 1 + 3 + 1 + 3 + 3);
        rowIs("black's", 2, 1);
        b.quarters(1);
        due("all OUT", b.choices(), 0);
        rowIs("all OUT", 0, 0);
    }

    // ---- which piece it was

    private static void heardAndFits() {
        club(31, "Ka119;Qc320;rb230;qd599;Pe100", "");
        due("others", b.heard(-1, 0), -1);
        due("others", b.heard(5, 0), -1);
        due("others", b.heard(LEAST, 0), -1);
        int[] most = {5, 1, 9, 2, 9};
        for (int what = 0; what < 5; what++) {
            due("others", b.heard(what, -1), -1);
            due("others", b.heard(what, most[what] + 1), -1);
        }
        promise = 33;
        due("all", b.fits(), 31);
        rowIs("all", 5);
        due("KIND", b.heard(0, 1), 1);
        due("queens", b.fits(), 2 | 8);
        due("SIDE", b.heard(1, 0), 2);
        due("a white queen", b.fits(), 2);
        rowIs("a white queen", 1);
        promise = 32;
        due("forget()", b.forget(), 2);
        due("forget()", b.forget(), 0);
        promise = 33;
        b.heard(2, 2);
        due("20 or more", b.fits(), 2 | 4 | 8);
        b.heard(2, 9);
        due("90 or more", b.fits(), 8);
        b.forget();
        b.heard(3, 0);
        due("the middle", b.fits(), 2);
        b.forget();
        b.heard(3, 1);
        due("around the middle", b.fits(), 4);
        b.forget();
        b.heard(3, 2);
        due("at the edge", b.fits(), 1 | 8 | 16);
        b.forget();
        b.heard(4, 3);
        due("three or more", b.fits(), 1 | 2 | 4 | 8);
        b.heard(4, 4);
        due("four or more", b.fits(), 2 | 4 | 8);
        b.heard(4, 9);
        due("nine or more", b.fits(), 2 | 8);
        b.heard(0, 2);
        due("none", b.fits(), 0);
        rowIs("none", 0);
        promise = 31;
        for (int i = b.count(7) + 1; i <= 12; i++) {
            due("heard", b.heard(4, 0), i);
        }
        due("12", b.heard(4, 0), -1);
        due("12", b.count(7), 12);
        due("forget()", b.forget(), 12);
        b.quarters(1);
        promise = 33;
        due("not one OUT", b.fits(), 15);
    }

    private static void asks() {
        club(34, "Ka119;Qc320;rb230;qd599;Pe100", "");
        due("one by which two or three are left", b.asks(), 1);
        rowIs("one by which two or three are left", 3);
        b.heard(0, 1);
        due("of equal ones the least", b.asks(), 10);
        rowIs("of equal ones the least", 1);
        b.heard(1, 1);
        due("one left", b.asks(), 0);
        rowIs("one left", 1);
        b.heard(0, 0);
        due("none fits", b.asks(), -2);
        rowIs("the ROW stays", 1);
        club(34, "Ka110;Ka320", "");
        due("PURSES", b.asks(), 22);
        rowIs("PURSES", 1);
        club(34, "Ka110;Kc310", "");
        due("d", b.asks(), 30);
        club(34, "Ka110;Ka310", "");
        due("how many SQUARES", b.asks(), 44);
        rowIs("how many SQUARES", 1);
    }

    // ---- laws of rent

    private static void sawAndLaws() {
        promise = 35;
        b = new RentBoard();
        due("others", b.saw(-1, 0), -1);
        due("others", b.saw(3, 0), -1);
        due("others", b.saw(0, -1), -1);
        due("others", b.saw(0, 21), -1);
        promise = 37;
        due("all", b.laws(), 49);
        rowIs("all", 0, 0);
        due("saw", b.saw(0, 9), 1);
        due("2a + b = 9", b.laws(), 3);
        rowIs("2a + b = 9", 2, 5);
        due("saw", b.saw(1, 6), 2);
        due("a + b = 6", b.laws(), 1);
        rowIs("a + b = 6", 3, 3);
        due("saw", b.saw(2, 3), 3);
        due("b = 3", b.laws(), 1);
        due("saw", b.saw(2, 20), 4);
        due("none", b.laws(), 0);
        rowIs("none");
        promise = 36;
        due("denies", b.denies(), 4);
        due("denies", b.denies(), 0);
        due("count(8)", b.count(8), 0);
        promise = 35;
        for (int i = 1; i <= 10; i++) {
            due("saw", b.saw(2, 6), i);
        }
        due("10", b.saw(2, 6), -1);
        due("10", b.count(8), 10);
        promise = 37;
        due("b = 6", b.laws(), 7);
        rowIs("b = 6", 0, 6);
    }

    private static void sees() {
        promise = 38;
        b = new RentBoard();
        due("of all", b.sees(), 0);
        rowIs("of all", 4);
        b.saw(0, 6);
        due("2a + b = 6", b.sees(), 1);
        rowIs("2a + b = 6", 1);
        b.denies();
        b.saw(2, 3);
        due("b = 3", b.sees(), 0);
        rowIs("b = 3", 1);
        b.saw(2, 4);
        due("none fits", b.sees(), -2);
        rowIs("the ROW stays", 1);
    }

    // ---- chances, a knight

    private static void odds() {
        club(39, "Ka150;Kb150;Kc150;re500", "");
        due("odds", b.odds(0, 2, 5), 0);
        rowIs("two or more of three", 1, 2);
        b.odds(0, 1, 3);
        rowIs("one or more", 973, 1000);
        b.odds(0, 3, 3);
        rowIs("three", 343, 1000);
        b.odds(0, 0, 10);
        rowIs("none or more", 1, 1);
        b.odds(0, 1, 10);
        rowIs("none stays", 0, 1);
        b.odds(0, 3, 0);
        rowIs("all stay", 1, 1);
        b.odds(0, 4, 0);
        rowIs("more than there are", 0, 1);
        b.odds(1, 1, 2);
        rowIs("black's", 4, 5);
        due("another SIDE", b.odds(2, 0, 0), -1);
        due("another SIDE", b.odds(-1, 0, 0), -1);
        due("another k", b.odds(0, -1, 0), -1);
        due("another k", b.odds(0, 9, 0), -1);
        due("another p", b.odds(0, 0, -1), -1);
        due("another p", b.odds(0, 0, 11), -1);
        rowIs("the ROW stays", 4, 5);
        b.sheet(2, 4, 0, 50);
        b.quarters(1);
        b.odds(0, 2, 1);
        rowIs("not one OUT", 81, 100);
        club(39, EIGHT.replace('k', 'K').replace('q', 'Q'), "");
        b.odds(0, 8, 9);
        rowIs("eight", 1, 100000000);
        b.odds(0, 1, 9);
        rowIs("eight", 100000000 - 43046721, 100000000);
    }

    private static void knights() {
        promise = 40;
        b = new RentBoard();
        String[] lost = {"0,0", "0,1", "1,0", "1,1", "4,0", "5,1", "4,4", "8,9", "9,9", "0,8"};
        for (String one : lost) {
            due("knights of " + one, b.knights(one.charAt(0) - '0', one.charAt(2) - '0'), 0);
            rowIs("knights of " + one);
        }
        int[][] won = {{2, 0, 0, 1}, {2, 1, 0, 0}, {0, 2, 1, 0}, {1, 2, 0, 0}, {3, 3, 1, 4}, {2, 2, 0, 1}, {9, 3, 8, 1}, {9, 2, 8, 0}};
        for (int[] one : won) {
            due("knights of " + one[0] + "," + one[1], b.knights(one[0], one[1]), 1);
            rowIs("knights of " + one[0] + "," + one[1], one[2], one[3]);
        }
        due("others", b.knights(-1, 0), -1);
        due("others", b.knights(0, -1), -1);
        due("others", b.knights(10, 0), -1);
        due("others", b.knights(0, 10), -1);
        rowIs("the ROW stays", 8, 0);
    }

    // ---- rests, rules, years

    private static void rests() {
        promise = 41;
        b = new RentBoard();
        due("none comes", b.rests(0), 100);
        rowIs("none comes", 0, 0);
        due("one comes", b.rests(2), 100);
        due("one who asks 1", b.rests(3), 8 + 8 + 4);
        rowIs("one who asks 1", 0, 0);
        due("two", b.rests(4), 2);
        due("one", b.rests(6), 1);
        rowIs("one", 1, 1);
        due("by like ones no more", b.rests(13), 2);
        rowIs("by like ones no more", 1, 2);
        due("none", b.rests(12), 0);
        rowIs("none");
        due("another v", b.rests(-1), -1);
        due("another v", b.rests(21), -1);
    }

    private static void laws() {
        club(42, "Kc324;Qa109;ne599;rb200", "");
        due("as THE RULE", law(""), 0);
        rowIs("as THE RULE", 3, 3, 24 + 8 + 8, 24 + 8 + 8);
        due("fewer, below 0", law("4"), -2);
        rowIs("fewer, below 0", 1, 3, 24 + 8 + 32, 40);
        due("more", law("0"), 1);
        rowIs("more", 4, 3, 0, 40);
        due("QUARTER stays", b.count(3) + b.count(9), 0);
        due("THE RULE stays", rent(0, 0), 1);
        due("a fault", law("z"), -10000);
        due("a fault", law("x+"), -10002);
        due("a fault", law("1000"), -10003);
        due("more than 40", law(times("1+", 20) + "1"), -10040);
        rowIs("the ROW stays", 4, 3, 0, 40);
        rule("n");
        b.sheet(2, 4, 99, 0);
        b.quarters(1);
        due("from the QUARTER on", law(""), 0);
        rowIs("from the QUARTER on", 4, 4, 8 * (3 + 1 + 1 + 2), 4 * (1 + 2 + 3 + 4 + 5 + 6 + 0 + 1));
    }

    private static void years() {
        club(43, "Ka120", "");
        boolean moved = false;
        for (int seed = 0; seed < 80; seed++) {
            b.years(seed, 2);
            moved |= row(1) == 1;
        }
        due("one piece alone is drawn", moved, true);
        b.moves(0, at("a2"));
        b.years(0, 1);
        due("MOVES made ahead are none of them", row(1), 0);
        b = new RentBoard();
        due("no PIECES", b.years(7, 60), 0);
        rowIs("no PIECES", 0, 0);
        due("another n", b.years(7, 0), -1);
        due("another n", b.years(7, 61), -1);
        rowIs("the ROW stays", 0, 0);
        club(43, "Ka120;kc320", "");
        int made = 0;
        for (int seed = -30; seed < 30; seed++) {
            int r = seed * 1103515245 + 12345;
            boolean quarter = (r >>> 16) % 4 == 3;
            r = r * 1103515245 + 12345;
            int piece = (r >>> 16) % 2;
            r = r * 1103515245 + 12345;
            int square = (r >>> 16) % 25;
            boolean move = !quarter && piece == 0 && (bits("b1 a2 b2") >> square & 1) == 1;
            made += move ? 1 : 0;
            due("one of seed " + seed, b.years(seed, 1), 2);
            rowIs("one of seed " + seed, quarter ? 36 : 40, move ? 1 : 0);
        }
        due("some of them were MOVES", made > 0, true);
        due("nothing changed", b.count(2) + b.count(3) + b.count(4) + b.count(9), 0);
        club(43, "Ka120;kc320", "");
        b.passes();
        boolean black = false;
        for (int seed = 0; seed < 80; seed++) {
            b.years(seed, 1);
            black |= row(1) == 1;
        }
        due("from the TURN on", black, true);
        rule("20");
        due("all go in so many", b.years(1, 60), 0);
    }

    // ---- kept

    private static void keptStates() {
        club(44, "Pa420;kc320", "");
        due("keep", b.keep(0), true);
        due("others", b.keep(2), false);
        due("others", b.keep(-1), false);
        promise = 45;
        due("nothing kept", b.again(1), false);
        due("others", b.again(2), false);
        due("others", b.again(LEAST), false);
        b.moves(0, at("a5"));
        b.quarters(2);
        b.keep(1);
        b.quarters(9);
        due("OUT", b.count(1), 1);
        due("again", b.again(0), true);
        due("KIND", piece(0, 0), 5);
        due("SQUARE", piece(0, 2), at("a4"));
        due("PURSES", b.count(5) * 100 + b.count(6), 2020);
        due("TURN, QUARTER, MOVES", b.count(2) + b.count(3) + b.count(4), 0);
        due("undo() forgotten", b.undo(), -1);
        due("the other", b.again(1), true);
        due("KIND", piece(0, 0), 1);
        due("TURN, QUARTER, MOVES", b.count(2) * 100 + b.count(3) * 10 + b.count(4), 121);
        rule("5");
        due("as often as one will", b.again(1), true);
        due("THE RULE stays", piece(0, 4), 5);
        b.passes();
        due("refused", b.again(2), false);
        due("undo() stays", b.count(9), 1);
        b.pieces();
        due("none came", b.again(0), true);
        pieces("Ke100");
        b.passes();
        due("PIECES came", b.again(0), false);
        due("PIECES came", b.again(1), false);
        due("undo() stays", b.count(9), 1);
        due("kept anew", b.keep(0), true);
        due("again", b.again(0), true);
        b = new RentBoard();
        due("of no PIECES", b.keep(1), true);
        b.passes();
        due("of no PIECES", b.again(1), true);
        due("TURN", b.count(2), 0);
    }

    private static void counts() {
        club(46, "Pa420;kc321;Ke102", "1");
        b.heard(0, 0);
        b.saw(0, 0);
        b.saw(0, 0);
        b.moves(0, at("a5"));
        b.quarters(3);
        b.sign(0);
        int[] due = {3, 3, 1, 3, 1, 17, 18, 1, 2, 2, 1, 4};
        for (int what = 0; what < due.length; what++) {
            due("count(" + what + ")", b.count(what), due[what]);
        }
        due("another what", b.count(12), -1);
        due("another what", b.count(-1), -1);
        promise = 47;
        due("row(0)", row(0), 3 + 3 + 2);
        due("none such", row(1), THROWN);
        due("none such", row(-1), THROWN);
        due("none such", row(MOST), THROWN);
        due("none such", row(LEAST), THROWN);
    }

    /** "the ROW stays with each answer that tells of a refusal ..., and with calls that do not tell of it". */
    private static void rowThatStays() {
        club(47, "Ka150;kc320;Pa300;be500", "9");
        b.odds(0, 2, 1);
        b.sign(0);
        b.end(0);
        b.pieces();
        pieces("Kc300");
        rule("x");
        rule("?");
        law("?");
        game("?");
        b.sheet(2, 8, 30, 0);
        b.sheet(9, 1, 1, 1);
        b.passes();
        b.passes();
        b.gives(0, 1, 5);
        b.gives(0, 0, 5);
        b.wages(0, 1);
        b.wages(0, 0);
        b.undo();
        b.ways(0, 0, 2);
        b.heard(0, 5);
        b.forget();
        b.saw(1, 20);
        b.sees();
        b.denies();
        b.needs(0, 5);
        b.hops(0, 99);
        b.moves(0, 24);
        b.moves(1, 0);
        b.quarters(99);
        b.goes(9);
        b.threats(9);
        b.later(9, 0);
        b.when(9);
        b.cheapest(9);
        b.wanders(9, 1);
        b.stays(9, 1);
        b.looks(9);
        b.odds(9, 9, 9);
        b.knights(99, 0);
        b.rests(99);
        b.years(0, 0);
        b.keep(0);
        b.again(0);
        b.count(3);
        square(0);
        rent(0, 0);
        piece(0, 0);
        rowIs("the ROW stays", 81, 100);
    }
}
