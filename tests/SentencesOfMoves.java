/** Promises 10 to 16, sentence by sentence. */
public final class SentencesOfMoves {
    private static final int LEAST = Club.LEAST;
    private static final int MOST = Club.MOST;

    public static void main(String[] args) {
        moves();
        movesThatCannotBe();
        quarters();
        passes();
        gives();
        givesThatCannotBe();
        wages();
        wagesThatCannotBe();
        acts();
        actsTillOneCannotBe();
        everySignOfAGame();
        gamesThatEndTooEarly();
        moreThan60();
        gamesThatTellNothing();
        undo();
        twelveThatAreKept();
        whatIsKept();
        whatForgets();
        Club.finish("SentencesOfMoves");
    }

    // ---- moves

    private static void moves() {
        Club.promise(10);
        Club.says("A MOVE of a piece to a SQUARE: by how much its PURSE is more than ahead of it; the ROW: its PURSE then, its KIND "
            + "then");
        Club c = Club.of("Ra160;nb530;Pd420;bc515;ke100");
        Club.due("to where nobody stands", c.moves(0, Club.at("a5")), 0);
        c.rowIs("to where nobody stands", 60, 2);
        Club.due("black's", c.moves(1, Club.at("c3")), 0);
        c.rowIs("black's", 30, 4);
        Club.due("a pawn that takes on the last row", c.moves(2, Club.at("c5")), 15);
        c.rowIs("a pawn that takes on the last row", 35, 1);
        Club.due("a king", c.moves(4, Club.at("e2")), 0);
        c.rowIs("a king", 0, 0);
        Club.due("a queen that was a pawn", c.moves(2, Club.at("c3")), 30);
        c.rowIs("a queen that was a pawn", 65, 1);
        Club.due("PURSES of white", c.count(5), 125);
        Club.due("PURSES of black", c.count(6), 0);
        Club.due("MOVES", c.count(4), 5);
        Club full = Club.of("Ka199;rb250");
        Club.due("of one that has 99", full.moves(0, Club.at("b2")), 0);
        full.rowIs("of one that has 99", 99, 0);
        Club.due("the other one", full.piece(1, 2), 25);
        Club.due("its PURSE", full.count(6), 0);
    }

    private static void movesThatCannotBe() {
        Club.says("-2: it is OUT, or not of the SIDE whose TURN it is");
        Club c = Club.of("Ka150;Rb100;rc150;nd100");
        c.quarters(1);
        Club.due("white that is OUT", c.moves(1, Club.at("b2")), -2);
        Club.due("black that is OUT", c.moves(3, Club.at("b2")), -2);
        Club.due("black on white's TURN", c.moves(2, Club.at("c2")), -2);
        Club.due("white", c.moves(0, Club.at("a2")), 0);
        Club.due("white on black's TURN", c.moves(0, Club.at("a1")), -2);
        Club.due("white that is OUT, on black's TURN", c.moves(1, Club.at("b2")), -2);
        Club.due("black that is OUT, on its TURN", c.moves(3, Club.at("e3")), -2);
        Club.due("black", c.moves(2, Club.at("c2")), 0);
        Club.says("-3: it can't go there");
        Club go = Club.of("Ka150;Pb250;rc350;Na350");
        Club.due("two rows", go.moves(0, Club.at("a3")), -3);
        Club.due("its own SQUARE", go.moves(0, Club.at("a1")), -3);
        Club.due("one of its SIDE", go.moves(0, Club.at("b2")), -3);
        Club.due("a pawn slantwise to nobody", go.moves(1, Club.at("a3")), -3);
        Club.due("a pawn slantwise to one of its SIDE", go.moves(1, Club.at("a3")), -3);
        Club.due("a pawn backwards", go.moves(1, Club.at("b1")), -3);
        Club.due("a pawn two rows", go.moves(1, Club.at("b4")), -3);
        Club.due("a pawn slantwise to one of the other SIDE", go.moves(1, Club.at("c3")), 49);
        Club.says("NONE: none such");
        for (int p : new int[] {-1, 4, 8, LEAST, MOST}) {
            Club.due("moves(" + p + ", 0)", go.moves(p, 0), -1);
        }
        go.passes();
        for (int s : new int[] {-1, 25, LEAST, MOST}) {
            Club.due("moves(0, " + s + ")", go.moves(0, s), -1);
        }
        Club.due("MOVES", go.count(4), 1);
    }

    // ---- quarter days, passes

    private static void quarters() {
        Club.promise(11);
        Club.says("n QUARTER DAYS (0 .. 60): how many PIECES are OUT by them; the ROW: what was paid in all");
        Club c = Club.of("Ka105;Qb102;rc100;nc399;pe460");
        Club.due("none", c.quarters(0), 0);
        c.rowIs("none", 0);
        Club.due("QUARTER", c.count(3), 0);
        Club.due("one", c.quarters(1), 1);
        c.rowIs("one", 1 + 1 + 0 + 3 + 1);
        Club.due("one more", c.quarters(1), 0);
        c.rowIs("one more", 1 + 1 + 3 + 1);
        Club.due("two more", c.quarters(2), 1);
        c.rowIs("two more", 2 + 0 + 6 + 2);
        Club.due("the one that is OUT by then", c.count(1), 1 | 8 | 16);
        Club.due("sixty", c.quarters(60), 3);
        c.rowIs("sixty", 1 + 29 * 3 + 56);
        Club.due("QUARTER", c.count(3), 64);
        Club.due("of those that are OUT none is counted again", c.quarters(60), 0);
        c.rowIs("of those that are OUT none is counted again", 0);
        Club.says("what was paid (not what was left of one that is OUT)");
        Club poor = Club.of("Ka109;Kb110", "10");
        Club.due("one is OUT", poor.quarters(1), 1);
        poor.rowIs("one is OUT", 10);
        Club.due("PURSES", poor.count(5), 0);
        Club.says("Refused: another n");
        Club other = Club.of("Ka150");
        for (int n : new int[] {-1, 61, 62, LEAST, MOST}) {
            Club.due("quarters(" + n + ")", other.quarters(n), -1);
            Club.due("QUARTER", other.count(3), 0);
            Club.due("what can be undone", other.count(9), 0);
        }
        Club.due("quarters(60)", other.quarters(60), 1);
    }

    private static void passes() {
        Club.promise(12);
        Club.says("TURN is the other SIDE's: whose");
        Club c = Club.of("Ka150;kc350");
        Club.due("black's", c.passes(), 1);
        Club.due("TURN", c.count(2), 1);
        Club.due("black may", c.moves(1, Club.at("c4")), 0);
        Club.due("black's again", c.passes(), 1);
        Club.due("white's", c.passes(), 0);
        Club.due("TURN", c.count(2), 0);
        Club.due("MOVES", c.count(4), 1);
        Club.due("QUARTER", c.count(3), 0);
        Club none = new Club();
        Club.due("without PIECES", none.passes(), 1);
        Club.due("without PIECES", none.passes(), 0);
    }

    // ---- gives, wages

    private static void gives() {
        Club.promise(13);
        Club.says("n (1 .. 99) of the PURSE of one piece come to that of another one: PURSE of the one");
        Club c = Club.of("Ka150;Kb140;rc130");
        Club.due("one", c.gives(0, 1, 1), 49);
        Club.due("PURSE of the other", c.piece(1, 3), 41);
        Club.due("to the other SIDE", c.gives(1, 2, 11), 30);
        Club.due("PURSE of the other", c.piece(2, 3), 41);
        Club.due("black on white's TURN", c.gives(2, 0, 41), 0);
        Club.due("PURSE of the other", c.piece(0, 3), 90);
        Club.due("TURN, MOVES", c.count(2) + c.count(4), 0);
        Club all = Club.of("Ka199;Kb100");
        Club.due("99", all.gives(0, 1, 99), 0);
        Club.due("PURSE of the other", all.piece(1, 3), 99);
        Club.due("PURSE of the one", all.piece(0, 3), 0);
    }

    private static void givesThatCannotBe() {
        Club.says("-3: it has not so much");
        Club c = Club.of("Ka110;Kb150;rc101;nd100");
        Club.due("one more than it has", c.gives(0, 1, 11), -3);
        Club.due("99", c.gives(0, 1, 99), -3);
        Club.due("one of nothing", c.gives(3, 0, 1), -3);
        Club.due("as much as it has", c.gives(0, 1, 10), 0);
        Club.says("-4: the other one would have above 99");
        Club rich = Club.of("Ka150;Kb160;rc199");
        Club.due("100", rich.gives(0, 1, 40), -4);
        Club.due("one to one that has 99", rich.gives(0, 2, 1), -4);
        Club.due("99", rich.gives(0, 1, 39), 11);
        Club.due("PURSE of the other", rich.piece(1, 3), 99);
        Club.says("-2: one of them is OUT");
        c.quarters(1);
        Club.due("those that are not OUT", c.count(1), 2 | 4);
        Club.due("of one that is OUT", c.gives(0, 1, 1), -2);
        Club.due("to one that is OUT", c.gives(1, 0, 1), -2);
        Club.due("both are OUT", c.gives(0, 3, 1), -2);
        Club.says("NONE: others, like ones");
        for (int n : new int[] {0, -1, 100, LEAST, MOST}) {
            Club.due("gives(1, 2, " + n + ")", c.gives(1, 2, n), -1);
            Club.due("gives(1, 0, " + n + ") to one that is OUT", c.gives(1, 0, n), -1);
        }
        for (int p : new int[] {-1, 4, 8, LEAST, MOST}) {
            Club.due("gives(" + p + ", 1, 1)", c.gives(p, 1, 1), -1);
            Club.due("gives(1, " + p + ", 1)", c.gives(1, p, 1), -1);
            Club.due("gives(" + p + ", " + p + ", 1)", c.gives(p, p, 1), -1);
        }
        Club.due("like ones", c.gives(1, 1, 1), -1);
        Club.due("like ones that are OUT", c.gives(0, 0, 1), -1);
        Club.due("PURSES", c.count(5) * 100 + c.count(6), 5900);
    }

    private static void wages() {
        Club.promise(14);
        Club.says("All PIECES of a SIDE that are not OUT have n (1 .. 9) more in PURSE (99 at most): how many PIECES");
        Club c = Club.of("Ka150;Qb195;Rc100;rd110;ne197");
        Club.due("white's", c.wages(0, 5), 3);
        Club.due("PURSES", c.state(), "TURN 0 QUARTER 0 MOVES 0 0/0/0/55 1/0/1/99 2/0/2/5 2/1/3/10 4/1/4/97");
        Club.due("black's, 1", c.wages(1, 1), 2);
        Club.due("PURSE", c.piece(4, 3), 98);
        Club.due("black's, 9", c.wages(1, 9), 2);
        Club.due("99 at most", c.piece(4, 3), 99);
        Club.due("PURSE", c.piece(3, 3), 20);
        Club.due("white's, 9", c.wages(0, 9), 3);
        Club.due("one that has 99", c.piece(1, 3), 99);
        c.sheet(2, 5, 0, 25);
        c.quarters(1);
        Club.due("those that are not OUT", c.count(1), 30);
        Club.due("white's that are not OUT", c.wages(0, 3), 2);
        Club.due("PURSE of the one that is OUT", c.piece(0, 3), 0);
        Club black = Club.of("ra150");
        Club.due("none of white", black.wages(0, 9), 0);
        Club.due("PURSE", black.piece(0, 3), 50);
        Club.due("without PIECES", new Club().wages(1, 9), 0);
    }

    private static void wagesThatCannotBe() {
        Club.says("NONE: another SIDE, another n");
        Club c = Club.of("Ka150;rd110");
        for (int side : new int[] {-1, 2, LEAST, MOST}) {
            Club.due("wages(" + side + ", 1)", c.wages(side, 1), -1);
        }
        for (int n : new int[] {-1, 0, 10, LEAST, MOST}) {
            Club.due("wages(0, " + n + ")", c.wages(0, n), -1);
            Club.due("wages(1, " + n + ")", c.wages(1, n), -1);
        }
        Club.due("PURSES", c.count(5) * 100 + c.count(6), 5010);
        Club.due("what can be undone", c.count(9), 0);
    }

    // ---- games

    private static void acts() {
        Club.promise(15);
        Club.says("m, a digit and a SQUARE (moves()), n and a digit (quarters()), / (passes()), g, two digits and two digits "
            + "(gives(): one, other, n), w, a digit and a digit (wages())");
        Club c = Club.of("Ka150;rb240;nc360", "1");
        Club.due("a MOVE", c.game("m0b2"), 1);
        Club.due("it", c.state(), "TURN 1 QUARTER 0 MOVES 1 0/0/6/90 2/1/25/0 4/1/12/60");
        Club.due("QUARTER DAYS", c.game("n3"), 1);
        Club.due("they", c.state(), "TURN 1 QUARTER 3 MOVES 1 0/0/6/87 2/1/25/0 4/1/12/57");
        Club.due("TURN", c.game("/"), 1);
        Club.due("it", c.state(), "TURN 0 QUARTER 3 MOVES 1 0/0/6/87 2/1/25/0 4/1/12/57");
        Club.due("a gift", c.game("g2012"), 1);
        Club.due("it", c.state(), "TURN 0 QUARTER 3 MOVES 1 0/0/6/99 2/1/25/0 4/1/12/45");
        Club.due("wages", c.game("w17"), 1);
        Club.due("they", c.state(), "TURN 0 QUARTER 3 MOVES 1 0/0/6/99 2/1/25/0 4/1/12/52");
        Club.due("all of them", c.game("m0b1//n2g0225w09m2a2"), 7);
        Club.due("they", c.state(), "TURN 0 QUARTER 5 MOVES 3 0/0/1/81 2/1/25/0 4/1/5/75");
        c.rowIs("all of them", 0, 2);
        Club.due("nine QUARTER DAYS", c.game("n9"), 1);
        Club.due("QUARTER", c.count(3), 14);
        Club.due("none of them", c.game("n0"), 1);
        c.rowIs("none of them", 0, 2);
        Club.due("QUARTER", c.count(3), 14);
        Club.says("an empty one: no ACTS");
        Club.due("an empty one", c.game(""), 0);
        c.rowIs("an empty one", 0, 2);
        Club.due("without PIECES", new Club().game("/n9w09"), 3);
        Club.says("the ROW: how many PIECES are not OUT then");
        Club poor = Club.of("Ka102;rb105;nc300");
        Club.due("one is OUT", poor.game("n1"), 1);
        poor.rowIs("one is OUT", 0, 2);
        Club.due("one more by a MOVE", poor.game("m0b1"), 1);
        poor.rowIs("one more by a MOVE", 0, 1);
        Club.due("all are OUT", poor.game("n9/"), 2);
        poor.rowIs("all are OUT", 0, 0);
        Club eight = Club.of("Ka150;Kb150;Kc150;Kd150;Ke150;Ka550;Kb550;Rc550");
        Club.due("the last digits of PIECES", eight.game("m7c4/g7001"), 3);
        eight.rowIs("the last digits of PIECES", 0, 8);
    }

    private static void actsTillOneCannotBe() {
        Club.says("they are done one by one, till one can't be (it answers below 0): how many were done; the ROW: 1 if one could not "
            + "be, else 0");
        String[] ends = {"m0a3", "m1b3", "m3a1", "m9a1", "g0152", "g0250", "g0011", "g0901", "g9001", "g0100", "w21", "w91", "w00",
            "m0a1"};
        for (String end : ends) {
            Club c = Club.of("Ka150;rb240;nc360", "0");
            Club.due("game of " + end, c.game(end), 0);
            c.rowIs("game of " + end, 1, 3);
            Club.due("what can be undone", c.count(9), 0);
            Club.due("game of two, " + end, c.game("w01n2" + end + "n4/w01"), 2);
            c.rowIs("game of two, " + end, 1, 3);
            Club.due("nothing behind it", c.state(), "TURN 0 QUARTER 2 MOVES 0 0/0/0/51 2/1/6/40 4/1/12/60");
            Club.due("what can be undone", c.count(9), 1);
        }
        Club last = Club.of("Ka150;rb240", "0");
        Club.due("the last one can't be", last.game("//m1b1"), 2);
        last.rowIs("the last one can't be", 1, 2);
        Club.due("all can be", last.game("///m1b1"), 4);
        last.rowIs("all can be", 0, 2);
        Club out = Club.of("Ka150;rb200", "1");
        Club.due("one that went OUT in it", out.game("n1/m1b1"), 2);
        out.rowIs("one that went OUT in it", 1, 1);
    }

    private static void game(String text, int want) {
        Club c = Club.of("Ka150;Qb160;rc170", "0");
        Club.due("game of " + text, c.game(text), want);
        Club.due("signs behind it", c.count(11), 0);
    }

    private static boolean isIn(String signs, char sign) {
        return signs.indexOf(sign) >= 0;
    }

    private static void everySignOfAGame() {
        Club.says("-1 - p: the sign at p can't stand there");
        String digits = "0123456789";
        for (char sign = 0; sign < 256; sign++) {
            String told = ", sign " + (int) sign;
            boolean digit = isIn(digits, sign);
            Club c = Club.of("Ka150;Qb160;rc170", "0");
            Club.due("the first" + told, c.game("" + sign), sign == '/' ? 1 : isIn("mngw", sign) ? -2 : -1);
            Club.due("behind an ACT" + told, c.game("/" + sign), sign == '/' ? 2 : isIn("mngw", sign) ? -3 : -2);
            Club.due("behind n0" + told, c.game("n0" + sign), sign == '/' ? 2 : isIn("mngw", sign) ? -4 : -3);
            Club.due("behind m" + told, c.game("m" + sign), digit ? -3 : -2);
            Club.due("behind m0" + told, c.game("m9" + sign), sign >= 'a' && sign <= 'e' ? -4 : -3);
            Club.due("behind m0a" + told, c.game("m9a" + sign), sign >= '1' && sign <= '5' ? 0 : -4);
            Club.due("behind n" + told, c.game("n" + sign), digit ? 1 : -2);
            Club.due("behind g" + told, c.game("g" + sign), digit ? -3 : -2);
            Club.due("behind g0" + told, c.game("g0" + sign), digit ? -4 : -3);
            Club.due("behind g00" + told, c.game("g00" + sign), digit ? -5 : -4);
            Club.due("behind g000" + told, c.game("g000" + sign), digit ? 0 : -5);
            Club.due("behind w" + told, c.game("w" + sign), digit ? -3 : -2);
            Club.due("behind w0" + told, c.game("w9" + sign), digit ? 0 : -3);
        }
    }

    private static void gamesThatEndTooEarly() {
        Club.says("-1 - p: its end, if it ends too early");
        game("m", -2);
        game("m0", -3);
        game("m0a", -4);
        game("n", -2);
        game("g", -2);
        game("g0", -3);
        game("g01", -4);
        game("g010", -5);
        game("w", -2);
        game("w0", -3);
        game("//m0a", -6);
        game("n1w0", -5);
        Club.says("-1 - p: its end (what end() has cut off is no more there)");
        String[] whole = {"m0a2", "n1", "g0105", "w01", "//w01"};
        for (String text : whole) {
            Club c = Club.of("Ka150;Qb160", "0");
            c.put(text);
            c.end(text.length() - 1);
            Club.due("game of " + text + " but for its last sign", c.game(), -text.length());
        }
        Club.says("ACTS one behind another, without signs between");
        game("n1 n1", -3);
        game("n1;n1", -3);
        game(" n1", -1);
        game("n1\n", -3);
        game("n10", -3);
        game("w011", -4);
        game("g01011", -6);
        game("m0a21", -5);
        game("//", 2);
        game("n1n1", 2);
    }

    private static void moreThan60() {
        Club.says("60, if it has more and the first 60 could go on or end");
        game("/".repeat(60), 60);
        game("n0".repeat(30), 30);
        game("w01".repeat(20), 20);
        game("g0101".repeat(11) + "g0101", 12);
        game("//" + "m9a1".repeat(14) + "n0", 2);
        game("/".repeat(59) + "/", 60);
        game("/".repeat(61), -61);
        game("/".repeat(80), -61);
        game("/".repeat(60) + "?", -61);
        game("/".repeat(59) + "n0", -61);
        game("/".repeat(58) + "w01", -61);
        game("/".repeat(57) + "m0a1", -61);
        game("/".repeat(56) + "g0101", -61);
        game("/".repeat(59) + "m0a1", -61);
        game("/".repeat(59) + "g?", -61);
        game("n0".repeat(31), -61);
        Club.says("60, if the first 60 could go on or end (else the sign that can't stand)");
        game("?" + "/".repeat(60), -1);
        game("/".repeat(59) + "?/", -60);
        game("/".repeat(58) + "n?/", -60);
        game("/".repeat(57) + "m0f1", -60);
        game("/".repeat(56) + "g01?1", -60);
        Club.says("its end, if it ends too early (60 signs)");
        game("/".repeat(59) + "n", -61);
        game("/".repeat(59) + "m", -61);
        game("/".repeat(57) + "m0a", -61);
        game("/".repeat(56) + "g010", -61);
        game("/".repeat(58) + "n", -60);
    }

    private static void gamesThatTellNothing() {
        Club.says("nothing is done then");
        Club c = Club.of("Ka150;Qb160;rc170", "1");
        c.odds(0, 1, 3);
        c.game("n1w05m0a2?");
        c.game("///n");
        c.game("/".repeat(61));
        Club.due("all", c.state(), "TURN 0 QUARTER 0 MOVES 0 0/0/0/50 1/0/1/60 2/1/2/70");
        Club.due("what can be undone", c.count(9), 0);
        c.rowIs("the ROW stays", 91, 100);
    }

    // ---- undo

    private static void undo() {
        Club.promise(16);
        Club.says("The latest is undone (all of PIECES, TURN, QUARTER, MOVES are as ahead of it): how many are left that can be");
        Club c = Club.of("Pa450;rb540;Kc110", "1");
        String[] states = new String[8];
        states[0] = c.state();
        c.moves(0, Club.at("b5"));
        states[1] = c.state();
        c.quarters(7);
        states[2] = c.state();
        c.passes();
        states[3] = c.state();
        c.gives(0, 2, 5);
        states[4] = c.state();
        c.wages(0, 4);
        states[5] = c.state();
        c.game("n1w09/");
        states[6] = c.state();
        c.quarters(60);
        Club.due("those that are not OUT", c.count(1), 1);
        for (int left = 6; left >= 0; left--) {
            Club.due("undo()", c.undo(), left);
            Club.due("what can be undone", c.count(9), left);
            Club.due("all", c.state(), states[left]);
        }
        Club.says("Refused: none");
        Club.due("undo()", c.undo(), -1);
        Club.due("all", c.state(), states[0]);
        Club.due("undo() again", c.undo(), -1);
        Club.due("what comes behind it can be undone", c.passes(), 1);
        Club.due("undo()", c.undo(), 0);
    }

    private static void twelveThatAreKept() {
        Club.says("(of 12 that are kept, the latest ones");
        for (int n = 11; n <= 14; n++) {
            Club c = Club.of("Ka199");
            for (int i = 1; i <= n; i++) {
                c.quarters(i);
                Club.due("what can be undone behind " + i, c.count(9), Math.min(i, 12));
            }
            int quarter = n * (n + 1) / 2;
            for (int i = 0; i < 12 && i < n; i++) {
                Club.due("undo()", c.undo(), Math.min(n, 12) - 1 - i);
                quarter -= n - i;
                Club.due("QUARTER", c.count(3), quarter);
            }
            Club.due("undo() of none", c.undo(), -1);
            Club.due("QUARTER", c.count(3), quarter);
        }
        Club.says("(of 12 that are kept; some undone, others behind them");
        Club c = Club.of("Ka199");
        for (int i = 0; i < 15; i++) {
            c.quarters(1);
        }
        for (int i = 0; i < 5; i++) {
            c.undo();
        }
        Club.due("what can be undone", c.count(9), 7);
        for (int i = 0; i < 8; i++) {
            c.quarters(2);
        }
        Club.due("what can be undone", c.count(9), 12);
        for (int i = 11; i >= 0; i--) {
            Club.due("undo()", c.undo(), i);
        }
        Club.due("QUARTER ahead of the twelfth", c.count(3), 15 - 5 - 4);
        Club.due("undo() of none", c.undo(), -1);
    }

    private static void whatIsKept() {
        Club.says("such as were done");
        Club c = Club.of("Ka150;rb100;nc150", "0");
        c.moves(0, 2);
        c.moves(1, 0);
        c.moves(5, 0);
        c.quarters(61);
        c.gives(0, 1, 60);
        c.gives(0, 0, 1);
        c.wages(2, 1);
        c.game("?");
        c.game("m9a1");
        c.game("");
        c.sheet(2, 3, 50, 0);
        c.keep(0);
        c.heard(0, 0);
        c.saw(0, 0);
        c.rule("0");
        c.years(1, 9);
        c.law("");
        Club.due("what can be undone", c.count(9), 0);
        Club.says("quarters(0), too");
        c.quarters(0);
        Club.due("what can be undone", c.count(9), 1);
        Club.says("gives() of all that a piece has, too");
        Club poor = Club.of("Ka107;rb100");
        Club.due("gives() of all", poor.gives(0, 1, 7), 0);
        Club.due("what can be undone", poor.count(9), 1);
        Club.due("undo()", poor.undo(), 0);
        Club.due("PURSES", poor.count(5) * 10 + poor.count(6), 70);
        Club.says("wages() of no piece, too");
        Club black = Club.of("ka150");
        black.wages(0, 1);
        Club.due("what can be undone", black.count(9), 1);
        Club.says("game() of which one ACT was done, as one");
        c.game("n0m9a1");
        Club.due("what can be undone", c.count(9), 2);
        c.game("n1/w01g0101");
        Club.due("what can be undone", c.count(9), 3);
        c.game("/".repeat(60));
        Club.due("what can be undone", c.count(9), 4);
        Club.due("undo()", c.undo(), 3);
        Club.due("undo()", c.undo(), 2);
        Club.due("QUARTER, TURN, PURSE", c.state(), "TURN 0 QUARTER 0 MOVES 0 0/0/0/50 2/1/1/50 4/1/2/50");
    }

    private static void whatForgets() {
        Club.says("pieces() and again() forget them, if they are not refused; an empty pieces() does not");
        Club c = Club.of("Ka150;rb150");
        c.keep(0);
        c.passes();
        c.passes();
        c.pieces("?");
        Club.due("pieces() that is refused", c.count(9), 2);
        c.pieces("Ka100");
        Club.due("pieces() that is refused", c.count(9), 2);
        c.pieces("");
        Club.due("an empty pieces()", c.count(9), 2);
        c.again(1);
        Club.due("again() that is refused", c.count(9), 2);
        c.again(2);
        Club.due("again() that is refused", c.count(9), 2);
        Club.due("again()", c.again(0), true);
        Club.due("what can be undone", c.count(9), 0);
        Club.due("undo()", c.undo(), -1);
        c.passes();
        Club.due("pieces()", c.pieces("Ke150"), 1);
        Club.due("what can be undone", c.count(9), 0);
        Club.due("undo()", c.undo(), -1);
        c.passes();
        Club.due("again() behind pieces()", c.again(0), false);
        Club.due("what can be undone", c.count(9), 1);
        Club.says("(others forget nothing)");
        c.keep(0);
        c.rule("1");
        c.forget();
        c.denies();
        c.sheet(3, 0, 0, 0);
        Club.due("what can be undone", c.count(9), 1);
    }
}
