/** Promises 28 to 30, sentence by sentence. */
public final class SentencesOfWorth {
    public static void main(String[] args) {
        best();
        bestOfEqualOnes();
        bestOfNone();
        looksAtNone();
        looksAtOne();
        looksAtTwo();
        looksWhereThereIsNoMove();
        looksOfEqualOnes();
        looksThatCannotBe();
        choices();
        Club.finish("SentencesOfWorth");
    }

    private static int at(String name) {
        return Club.at(name);
    }

    private static Club blacks(String lines, String rule) {
        Club c = Club.of(lines, rule);
        c.passes();
        return c;
    }

    private static void best(String what, Club c, int move, int worth) {
        Club.due("best(), " + what, c.best(), move);
        c.rowIs(what, 1000 + worth);
        Club.due("looks(1), " + what, c.looks(1), 1000 + worth);
        c.rowIs(what, move);
    }

    // ---- best

    private static void best() {
        Club.promise(28);
        Club.says("The MOVE of the SIDE whose TURN it is behind which, and behind a QUARTER DAY, its WORTH is the greatest: 100 times "
            + "the piece and the SQUARE: it; the ROW: 1000 and that WORTH");
        best("a capture", Club.of("Ka120;rb230", "0"), at("b2"), 50);
        best("the dearer capture", Club.of("Ka120;rb230;na231", "0"), at("a2"), 51 - 30);
        best("99 at most", Club.of("Ka160;rb260;re550", "0"), at("b2"), 99 - 50);
        best("black's", blacks("Ka120;rb230", "0"), 100 + at("b1"), 30 - 20);
        best("black's capture", blacks("Ka120;kb230", "0"), 100 + at("a1"), 50);
        best("the last piece", Club.of("Pa510;Pb510;Pc510;Pd510;Pe510;ra110;Nc300;ne430", "0"), 600 + at("e4"), 80 - 10);
        Club.says("behind which, and behind a QUARTER DAY");
        best("to where RENT is least", Club.of("Kc350", "x+y"), at("b2"), 48);
        best("to where RENT is least, not the first", Club.of("Kc350", "9-x-y"), at("d4"), 47);
        best("less what is paid by the other SIDE", Club.of("Kc350;ra120", "3"), at("b2"), 47 - 17);
        best("one that goes OUT by the day", Club.of("Kc305;Pa550", "6*(x=1)"), at("c2"), 55);
        best("one of the other SIDE that goes OUT", Club.of("Ka150;re504", "5"), at("b1"), 45);
        best("what it takes pays its RENT", Club.of("Ka101;rb209", "6"), at("b2"), 4);
        best("what is taken at most is ahead of the day", Club.of("Ka199;rb299", "6"), at("b2"), 93);
        best("around whom it comes", Club.of("Ka150;re340;ne440", "5*k"), at("b1"), 50 - 35 - 35);
        best("where it comes", Club.of("Kc350;rb540;rb100", "5*k"), at("d2"), 50 - 40);
        best("a pawn that is a queen by then", Club.of("Pa450;Kd150", "q*4"), at("a5"), 50 - 4 + 50);
        best("of the QUARTER as it is", Club.of("Ka150", "2*n"), at("b1"), 50);
        Club later = Club.of("Ka150", "2*n");
        later.quarters(3);
        best("of the QUARTER as it is", later, at("b1"), 44 - 6);
        Club out = Club.of("Ka150;Qb100;rc150", "5");
        out.quarters(1);
        best("none of one that is OUT", out, at("b1"), 40 - 40);
    }

    private static void bestOfEqualOnes() {
        Club.says("of equal ones the least");
        best("the least SQUARE", Club.of("Kc350", "5"), at("b2"), 45);
        best("the least piece", Club.of("Ke550;Ka150", "5"), at("d4"), 90);
        best("the least piece that can", Club.of("re550;Ka150;Kc150", "5"), 100 + at("b1"), 45);
        best("two captures alike", Club.of("Kc320;rd330;rb330", "0"), at("b3"), 50 - 30);
        best("by two PIECES alike", Club.of("Ra120;Rb120;rb330;ra330", "0"), at("a3"), 50 + 20 - 30);
        best("WORTH below 0", Club.of("Kc300;re590", "5"), at("b2"), -85);
        best("all go OUT", Club.of("Ke504;ka104", "5"), at("d4"), 0);
        best("piece 0 to SQUARE 0", Club.of("Kb150;re540", "0"), 0, 10);
        best("piece 0 takes on SQUARE 0", Club.of("Kb150;ra140", "0"), 0, 90);
        best("piece 0 to SQUARE 24", Club.of("Kd450", "9-9*(x+y=8)"), 24, 50);
        best("piece 7 to SQUARE 24", Club.of("Pa510;Pb510;Pc510;Pd510;pa110;pb110;pc110;Ke450", "9-9*(x+y=8)"), 724, 50 + 4 - 3);
    }

    private static void bestOfNone() {
        Club.says("-2: there is none");
        Club none = new Club();
        none.rests(0);
        Club.due("without PIECES", none.best(), -2);
        none.rowIs("the ROW stays", 0, 0);
        Club.due("none of its SIDE", Club.of("ra150").best(), -2);
        Club.due("black has none", blacks("Ra150", "").best(), -2);
        Club.due("none can go", Club.of("Pa150;ra250;Pe550").best(), -2);
        Club.due("black's none can go", blacks("pa550;Ra450;pe150", "").best(), -2);
        Club out = Club.of("Ka100;ra550");
        out.quarters(1);
        Club.due("all of its SIDE are OUT", out.best(), -2);
    }

    // ---- looks

    private static void looks(String what, Club c, int n, int worth, long... row) {
        Club.due("looks(" + n + "), " + what, c.looks(n), 1000 + worth);
        c.rowIs(what, row);
    }

    private static void looksAtNone() {
        Club.promise(29);
        Club.says("n MOVES (0 .. 2), then a QUARTER DAY: 1000 and WORTH then of the SIDE whose TURN it is now; the ROW: the MOVES");
        looks("white's", Club.of("Ka150;rb230;re505", "6"), 0, 44 - 24);
        looks("black's", blacks("Ka150;rb230;re505", "6"), 0, 24 - 44);
        looks("without PIECES", new Club(), 0, 0);
        looks("the least", Club.of("ra199;rb199;rc199;rd199;re199;ra299;rb299;rc299", "0"), 0, -792);
        looks("the most", Club.of("Ra199;Rb199;Rc199;Rd199;Re199;Ra299;Rb299;Rc299", "0"), 0, 792);
    }

    private static void looksAtOne() {
        Club.says("n MOVES (1), then a QUARTER DAY (as best())");
        looks("a capture", Club.of("Ka120;rb230;re540", "5"), 1, 45 - 35, at("b2"));
        looks("black's", blacks("Ka120;rb230", "5"), 1, 25 - 15, 100 + at("b1"));
    }

    private static void looksAtTwo() {
        Club.says("n MOVES (2) by turns, each SIDE making its own WORTH as great as can be behind all of them, then a QUARTER DAY");
        looks("what would be taken back is left alone", Club.of("Ra120;rc130;kc250", "0"), 2, 20 - 80, at("a2"), 100 + at("a1"));
        looks("what is not taken back is taken", Club.of("Ra120;rc130;ke550", "0"), 2, 50 - 50, at("c1"), 200 + at("d4"));
        looks("it flees", Club.of("Kb250;ra210;rc210", "0"), 2, 50 - 20, at("b1"), 100 + at("a1"));
        looks("black's turn first", blacks("kb250;Ra210;Rc210", "0"), 2, 50 - 20, at("b1"), 100 + at("a1"));
        looks("the other SIDE saves its RENT", Club.of("Ka150;ke550", "10*(x+y>7)"), 2, 0, at("b1"), 100 + at("d4"));
        looks("the other SIDE pays by its MOVE", Club.of("Ka150;pa515", "10*(y<4)"), 2, 40 - 5, at("b1"), 100 + at("a4"));
        looks("one day, behind both", Club.of("Ka150;ke550", "5+n"), 2, 0, at("b1"), 100 + at("d4"));
        Club c = Club.of("Ra120;rc130;kc250", "0");
        c.looks(2);
        Club.due("TURN, MOVES, QUARTER", c.count(2) + c.count(3) + c.count(4), 0);
        Club.due("PURSE", c.piece(1, 3), 30);
    }

    private static void looksWhereThereIsNoMove() {
        Club.says("(one that has no MOVE: there are no more)");
        looks("the first has none", Club.of("ra150;Pe550", "5"), 1, 45 - 45);
        looks("the first has none", Club.of("ra150;Pe550", "5"), 2, 45 - 45);
        looks("black, the first, has none", blacks("Ra150;pe120", "5"), 2, 15 - 45);
        looks("the second has none", Club.of("Ka150;pe120", "5"), 2, 45 - 15, at("b1"));
        looks("the second is all taken", Club.of("Ka120;rb230", "0"), 2, 50, at("b2"));
        looks("there is no second", Club.of("Ka120", "0"), 2, 20, at("b1"));
        looks("nobody", new Club(), 1, 0);
        looks("nobody", new Club(), 2, 0);
        looks("the first has none, the second would gain", Club.of("Pa550;Pb520;rb130", "0"), 2, 40);
    }

    private static void looksOfEqualOnes() {
        Club.says("the ROW: the MOVES (as best(); of as good ones at each the least)");
        looks("kings far from each other", Club.of("Kc350;Ka150;kd110;ke110", "0"), 1, 80, at("b2"));
        looks("piece 0 to SQUARE 0, no answer", Club.of("Kb250;pe150", "0"), 2, 0, 0);
        looks("piece 0 to SQUARE 0", Club.of("Kb250;ke550", "9-9*(x+y=0)"), 2, 9, 0, 118);
        looks("piece 0 to SQUARE 24", Club.of("Kd450;pe150", "9-9*(x+y=8)"), 2, 9, 24);
        looks("an answer by piece 0 to SQUARE 0", Club.of("kb250;Ke550", "0"), 2, 0, 118, 0);
        looks("an answer by piece 0 that takes on SQUARE 0", Club.of("kb250;Ke500;Na140", "0"), 2, -90, 118, 0);
        looks("an answer to SQUARE 24", Club.of("kd450;Ka150", "9-9*(x+y=8)"), 2, -9, 101, 24);
        looks("two rooks alike", Club.of("re550;Ra150;Re150;ra550", "0"), 2, 50 - 99, 100 + at("a5"), at("a5"));
    }

    private static void looksThatCannotBe() {
        Club.says("NONE: another n");
        Club c = Club.of("Ka150;rb130");
        c.rests(0);
        for (int n : new int[] {-1, 3, 4, Club.LEAST, Club.MOST}) {
            Club.due("looks(" + n + ")", c.looks(n), -1);
        }
        c.rowIs("the ROW stays", 0, 0);
    }

    // ---- choices

    private static void choices(String what, Club c, int all, int movable, int captures) {
        Club.due("choices(), " + what, c.choices(), all);
        c.rowIs(what, movable, captures);
    }

    private static void choices() {
        Club.promise(30);
        Club.says("How many MOVES the SIDE whose TURN it is has: how many; the ROW: of how many PIECES, how many captures");
        choices("without PIECES", new Club(), 0, 0, 0);
        choices("a king", Club.of("Kc350"), 8, 1, 0);
        choices("none of its SIDE", Club.of("kc350"), 0, 0, 0);
        choices("black's", blacks("kc350;Rc450", ""), 8, 1, 1);
        choices("one that can't", Club.of("Ka150;Pe550;Pc250;nb350"), 3 + 2, 2, 1);
        choices("the same captured by two", Club.of("Ka150;Kc150;nb250"), 3 + 5, 2, 2);
        choices("only captures", Club.of("Pc250;nb350;nc350;nd350"), 2, 1, 2);
        choices("eight of them", Club.of("Ka150;Kc150;Ke150;Ka350;Kc350;Ke350;Ka550;Kc550"), 3 + 5 + 3 + 5 + 8 + 5 + 3 + 5, 8, 0);
        Club out = Club.of("Ka150;Kc100;Ke150");
        out.quarters(1);
        choices("of those that are not OUT", out, 6, 2, 0);
        Club.due("as many behind it", out.choices(), 6);
    }
}
