/** Promises 17 to 20, sentence by sentence. */
public final class SentencesOfWays {
    private static final int LEAST = Club.LEAST;
    private static final int MOST = Club.MOST;

    public static void main(String[] args) {
        goes();
        threats();
        fewestHops();
        hopsNotOntoAnother();
        hopsOfPawns();
        leastRowOfHops();
        hopsByNone();
        waysOfNone();
        waysOfSome();
        waysOntoAnother();
        waysThatCannotBe();
        Club.finish("SentencesOfWays");
    }

    private static int at(String name) {
        return Club.at(name);
    }

    // ---- goes, threats

    private static void goes() {
        Club.promise(17);
        Club.says("SQUARES to which a piece CAN GO (bits; whosever TURN it is): them; the ROW: how many, on how many of them one of "
            + "the other SIDE stands");
        Club c = Club.of("Qc350;nc550;ra350;Pd450;pb250;Ke150;be550;Rb199", "50*(x=4)*(y=0)");
        for (int turn = 0; turn < 2; turn++) {
            Club.due("a queen", c.goes(0), Club.bits("a3 b3 d3 e3 c1 c2 c4 c5 b2 b4 a5 d2"));
            c.rowIs("a queen", 12, 3);
            Club.due("a knight", c.goes(1), Club.bits("a4 b3 d3 e4"));
            c.rowIs("a knight", 4, 0);
            Club.due("a rook", c.goes(2), Club.bits("a1 a2 a4 a5 b3 c3"));
            c.rowIs("a rook", 6, 1);
            Club.due("a white pawn", c.goes(3), Club.bits("d5 c5 e5"));
            c.rowIs("a white pawn", 3, 2);
            Club.due("a black pawn that takes nothing ahead", c.goes(4), 0);
            c.rowIs("a black pawn that takes nothing ahead", 0, 0);
            Club.due("a king", c.goes(5), Club.bits("d1 d2 e2"));
            c.rowIs("a king", 3, 0);
            Club.due("a bishop", c.goes(6), Club.bits("d4"));
            c.rowIs("a bishop", 1, 1);
            Club.due("the last piece", c.goes(7), Club.bits("a1 c1 d1 b2"));
            c.rowIs("the last piece", 4, 1);
            c.passes();
        }
        Club all = Club.of("Ke150;kd150;ke250;kd250");
        Club.due("only captures", all.goes(0), Club.bits("d1 d2 e2"));
        all.rowIs("only captures", 3, 3);
        Club none = Club.of("Ke150;Kd150;Ke250;Kd250");
        Club.due("none", none.goes(0), 0);
        none.rowIs("none", 0, 0);
        Club.due("a queen has 16", Club.of("Qc350").goes(0), Club.bits("a1 c1 e1 b2 c2 d2 a3 b3 d3 e3 b4 c4 d4 a5 c5 e5"));
        Club.says("-2: it is OUT");
        c.sheet(2, 8, 20, 0);
        c.rule("20");
        c.quarters(2);
        Club.due("goes(5)", c.goes(5), -2);
        c.rowIs("the ROW stays", 160);
        Club.says("NONE: none such");
        for (int p : new int[] {-1, 8, 9, LEAST, MOST}) {
            Club.due("goes(" + p + ")", c.goes(p), -1);
        }
    }

    private static void threats() {
        Club.promise(18);
        Club.says("PIECES of the other SIDE that CAN GO to the SQUARE of a piece (bits): them; the ROW: how many");
        Club c = Club.of("Kc350;rc550;ba150;nd150;pb450;pd450;qe350;kb350");
        Club.due("by all seven", c.threats(0), 254);
        c.rowIs("by all seven", 7);
        Club.due("by the king", c.threats(7), 1);
        c.rowIs("by the king", 1);
        Club.due("by none", c.threats(1), 0);
        c.rowIs("by none", 0);
        c.passes();
        Club.due("by all seven, whosever TURN", c.threats(0), 254);
        Club own = Club.of("Kc350;Rc550;Ba150;Nd150;rc150");
        Club.due("by none of its SIDE", own.threats(0), 1 << 4);
        own.rowIs("by none of its SIDE", 1);
        Club behind = Club.of("Kc350;rc550;pc450;ba150;pb250;nc250;qe150;nd250");
        Club.due("by none behind another one", behind.threats(0), 0);
        Club.due("a pawn none ahead", Club.of("Kc350;pc450").threats(0), 0);
        Club.due("a white pawn slantwise", Club.of("kc350;Pb250;Pd250;Pc250;Pb450").threats(0), 2 | 4);
        Club out = Club.of("Kc350;rc500;bd200;re350");
        out.quarters(1);
        Club.due("by none that is OUT", out.threats(0), 1 << 3);
        Club.says("-2: it is OUT");
        Club.due("threats(1)", out.threats(1), -2);
        Club.says("NONE: none such");
        for (int p : new int[] {-1, 4, 8, LEAST, MOST}) {
            Club.due("threats(" + p + ")", out.threats(p), -1);
        }
        out.rowIs("the ROW stays", 1);
    }

    // ---- hops

    private static void hops(String lines, String goal, String way) {
        Club c = Club.of(lines);
        int n = (way.length() + 1) / 3;
        Club.due("hops of " + lines + " to " + goal, c.hops(0, at(goal)), n);
        long[] squares = new long[n];
        for (int i = 0; i < n; i++) {
            squares[i] = at(way.substring(3 * i, 3 * i + 2));
        }
        c.rowIs("hops of " + lines + " to " + goal, squares);
    }

    private static void none(String lines, String goal) {
        Club c = Club.of(lines);
        c.rests(0);
        Club.due("hops of " + lines + " to " + goal, c.hops(0, at(goal)), -2);
        c.rowIs("the ROW stays", 0, 0);
    }

    private static void fewestHops() {
        Club.promise(19);
        Club.says("The fewest MOVES of a piece to a SQUARE (like ones: 0): how many; the ROW: the SQUARES behind each");
        hops("Kc300", "c3", "");
        hops("Kc300", "c4", "c4");
        hops("Ka100", "e5", "b2 c3 d4 e5");
        hops("Ra100", "a5", "a5");
        hops("Ra100", "e5", "e1 e5");
        hops("Ba100", "e5", "e5");
        hops("Ba100", "e1", "c3 e1");
        hops("Qa100", "b4", "b1 b4");
        hops("Na100", "c2", "c2");
        hops("Na100", "e5", "c2 e1 d3 e5");
        hops("Na100", "b1", "c2 a3 b1");
        hops("Pc100", "c5", "c2 c3 c4 c5");
        hops("pc500", "c1", "c4 c3 c2 c1");
        Club.says("whosever TURN it is (a question)");
        hops("kc300", "c4", "c4");
        Club.says("The fewest MOVES: as many as a maze needs");
        hops("Ka100;Pa200;Pb200;Pc200;Pd200", "a3", "b1 c1 d1 e2 d3 c3 b3 a3");
        hops("Ka100;Pb100;Pb200;Pb300;Pb400", "c1", "a2 a3 a4 b5 c4 c3 c2 c1");
        hops("Ka100;Pb100;Pb200;Pb300;Pb400;Pd200;Pd300;Pd400", "e1", "a2 a3 a4 b5 c4 c3 c2 d1 e1");
    }

    private static void hopsNotOntoAnother() {
        Club.says("never onto a SQUARE on which another piece stands but the last one, if that is of the other SIDE");
        hops("Ka100;nb200", "b2", "b2");
        hops("Ka100;na200;nb200;nb100", "b2", "b2");
        none("Ka100;na200;nb200;nb100", "c3");
        none("Ka100;Nb200", "b2");
        none("Ka100;Na200;Nb200;Nb100", "c3");
        hops("Ka100;nb200", "c3", "b1 c2 c3");
        hops("Ra100;pa300", "a3", "a3");
        hops("Ra100;pa300", "a5", "b1 b5 a5");
        hops("Ra100;Pa300", "a5", "b1 b5 a5");
        none("Ra100;pa200;pb100", "c1");
        none("Ra100;pa200;pb100", "c3");
        hops("Qa100;pb200;Pa200;pb100", "b1", "b1");
        Club.says("it alone moving: its own SQUARE is free behind it");
        hops("Rb100;Pb200", "a1", "a1");
        hops("Pc200;nd400", "d4", "c3 d4");
        Club.says("like ones: 0, and its SQUARE may be come past again by none");
        hops("Ba100;pb200", "a1", "");
    }

    private static void hopsOfPawns() {
        Club.says("(a pawn stays a pawn, it goes slantwise only so)");
        none("Pc400", "d5");
        none("Pc400", "c3");
        none("Pc400", "a1");
        hops("Pc400", "c5", "c5");
        none("Pc500", "c4");
        none("Pc500", "d5");
        none("Pc300;nc500", "c5");
        none("Pc300;Nc500", "c5");
        none("Pc300;nc400", "c5");
        hops("Pc300;nd500", "d5", "c4 d5");
        none("Pc300;Nd500", "d5");
        hops("Pc300;nd400", "d4", "d4");
        none("Pc300;nd400", "d5");
        hops("Pc300;nd400", "c5", "c4 c5");
        hops("pc300;Nb100", "b1", "c2 b1");
        none("pc300;Nd200", "d1");
        none("pc100", "c2");
    }

    private static void leastRowOfHops() {
        Club.says("the SQUARES behind each (of as few the least row)");
        hops("Kc100", "c3", "b2 c3");
        hops("Ke500", "c3", "d4 c3");
        hops("Ke300", "a3", "d2 c1 b2 a3");
        hops("Re500", "a1", "e1 a1");
        hops("Rc300", "b4", "b3 b4");
        hops("Qc300", "b5", "b2 b5");
        hops("Nc300", "c3", "");
        hops("Nc300", "b3", "b1 d2 b3");
        hops("Bc300", "c5", "b4 c5");
        hops("Ke100", "a5", "d2 c3 b4 a5");
    }

    private static void hopsByNone() {
        Club.says("-2: by none, or it is OUT");
        none("Ba100", "a2");
        none("Kc300;Nc400", "c4");
        none("Ka100;Na200;Nb200;Nb100", "e5");
        Club c = Club.of("Ka100;nc350");
        c.quarters(1);
        for (int square = 0; square < 25; square += 4) {
            Club.due("hops of one that is OUT to " + square, c.hops(0, square), -2);
        }
        Club.says("NONE: none such");
        for (int p : new int[] {-1, 2, 8, LEAST, MOST}) {
            Club.due("hops(" + p + ", 12)", c.hops(p, 12), -1);
        }
        for (int s : new int[] {-1, 25, 26, LEAST, MOST}) {
            Club.due("hops(1, " + s + ")", c.hops(1, s), -1);
            Club.due("hops(0, " + s + ") of one that is OUT", c.hops(0, s), -1);
        }
        c.rowIs("the ROW stays", 3);
    }

    // ---- ways

    private static void ways(String lines, String goal, int n, int want) {
        Club.due("ways of " + lines + " to " + goal + " by " + n, Club.of(lines).ways(0, at(goal), n), want);
    }

    private static void waysOfNone() {
        Club.promise(20);
        Club.says("In how many rows of n (0 .. 4) such MOVES: of none");
        ways("Ka100", "a1", 0, 1);
        ways("Ka100", "b1", 0, 0);
        ways("Ka100;nb100", "b1", 0, 0);
        ways("Pc500", "c5", 0, 1);
    }

    private static void waysOfSome() {
        Club.says("In how many rows of n (0 .. 4) such MOVES a piece comes to a SQUARE (past any SQUARES as often as it will)");
        ways("Ka100", "a1", 1, 0);
        ways("Ka100", "b1", 1, 1);
        ways("Ka100", "c1", 1, 0);
        ways("Ka100", "a1", 2, 3);
        ways("Ka100", "c3", 2, 1);
        ways("Ka100", "b2", 3, 16);
        ways("Ka100", "a1", 3, 6);
        ways("Ka100", "e5", 4, 1);
        ways("Na100", "a1", 2, 2);
        ways("Na100", "a1", 3, 0);
        ways("Na100", "a1", 4, 4 + 4 + 8);
        ways("Ra100", "e5", 2, 2);
        ways("Ra100", "a1", 2, 8);
        ways("Qc300", "c3", 2, 16);
        ways("Pc100", "c5", 4, 1);
        ways("Pc100", "c4", 4, 0);
        ways("Pc100", "c1", 2, 0);
        ways("pc500", "c2", 3, 1);
        Club.says("such MOVES (a pawn stays a pawn)");
        ways("Pc400", "c5", 1, 1);
        ways("Pc400", "d5", 2, 0);
        ways("Pc400", "c4", 2, 0);
        ways("Pc400", "b5", 1, 0);
    }

    private static void waysOntoAnother() {
        Club.says("onto one where another piece stands at the last alone");
        ways("Ka100;nb200", "b2", 1, 1);
        ways("Ka100;nb200", "b2", 2, 2);
        ways("Ka100;nb200", "a1", 2, 2);
        ways("Ka100;nb200", "c3", 2, 0);
        ways("Ka100;nb100;na200;nb200", "b2", 1, 1);
        ways("Ka100;nb100;na200;nb200", "b2", 2, 0);
        ways("Ka100;Nb200", "b2", 1, 0);
        ways("Ka100;Nb200", "b2", 3, 0);
        ways("Ra100;pa300", "a3", 1, 1);
        ways("Ra100;pa300", "a4", 1, 0);
        ways("Ra100;pa300", "a4", 2, 0);
        ways("Ra100;pa300", "a4", 3, 4);
        ways("Pc200;nb300", "b3", 1, 1);
        ways("Pc200;nb300", "b4", 2, 0);
        ways("Pc200;nb400", "b4", 2, 1);
        ways("Pc200;nc300", "c3", 1, 0);
        Club.says("it alone moving: its own SQUARE is free behind it");
        ways("Rb100;Pb200;Pd100", "a1", 1, 1);
        ways("Rb100;Pb200;Pd100", "b1", 2, 2);
    }

    private static void waysThatCannotBe() {
        Club.says("-2: it is OUT");
        Club c = Club.of("Ka100;nc350");
        c.quarters(1);
        for (int n = 0; n <= 4; n++) {
            Club.due("ways(0, 0, " + n + ")", c.ways(0, 0, n), -2);
        }
        Club.says("NONE: others");
        for (int n : new int[] {-1, 5, 6, LEAST, MOST}) {
            Club.due("ways(1, 12, " + n + ")", c.ways(1, 12, n), -1);
            Club.due("ways(0, 12, " + n + ") of one that is OUT", c.ways(0, 12, n), -1);
        }
        for (int s : new int[] {-1, 25, LEAST, MOST}) {
            Club.due("ways(1, " + s + ", 1)", c.ways(1, s, 1), -1);
        }
        for (int p : new int[] {-1, 2, 8, LEAST, MOST}) {
            Club.due("ways(" + p + ", 0, 1)", c.ways(p, 0, 1), -1);
        }
        Club.due("ways(1, 24, 4)", c.ways(1, at("c3"), 4) > 0, true);
        c.rowIs("the ROW stays", 3);
    }
}
