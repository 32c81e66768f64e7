/** Terms 1, sentence by sentence: the board, PIECES, who CAN GO where, a MOVE, a QUARTER DAY. */
public final class SentencesOfTerms {
    private static final String[] NAMES = {
        "a1", "b1", "c1", "d1", "e1", "a2", "b2", "c2", "d2", "e2", "a3", "b3", "c3", "d3", "e3",
        "a4", "b4", "c4", "d4", "e4", "a5", "b5", "c5", "d5", "e5"};
    private static final String EIGHT = "Ka100;Qb101;Rc102;Bd103;Ne104;Pa205;kb206;qc299";

    public static void main(String[] args) {
        Club.terms(1);
        face();
        squares();
        signsOfLines();
        kindsAndSides();
        purses();
        atMostEight();
        atFirst();
        whoIsOut();
        noTwoOnOneSquare();
        goesOnAnEmptyBoard();
        goesPastNoPiece();
        goesFromCorners();
        jumps();
        pawns();
        pawnsAtTheEdge();
        captures();
        queens();
        turnsAndMoves();
        quarterDays();
        Club.finish("SentencesOfTerms");
    }

    // ---- the face

    private static void face() {
        Club.says("public static final int NONE = -1");
        Club.due("NONE", RentBoard.NONE, -1);
        Club.says("An object is used for at most 512 calls");
        Club c = Club.of("Ka100", "0");
        int days = 0;
        while (c.callsSoFar() < 511) {
            c.quarters(60);
            days += 60;
        }
        Club.due("QUARTER, asked by the 512th call", c.count(3), days);
        Club many = Club.of("Ka100", "0");
        while (many.callsSoFar() < 511) {
            many.passes();
        }
        Club.due("what can be undone, asked by the 512th call", many.count(9), 12);
    }

    // ---- the board, PIECES

    private static void squares() {
        Club.says("SQUARES 0 .. 24: 5 times the row (0 .. 4) and the column (0 .. 4); in texts: a letter a .. e (the column), "
            + "a digit 1 .. 5 (the row and 1)");
        for (int square = 0; square < 25; square++) {
            Club c = Club.of("K" + NAMES[square] + "50");
            Club.due("SQUARE of " + NAMES[square], c.piece(0, 2), square);
            Club.due("square(" + square + ")", c.square(square), 0);
        }
        Club c = Club.of("Kb200", "10*x+y");
        for (int square = 0; square < 25; square++) {
            c.rule("10*(x=" + square % 5 + ")+(y=" + square / 5 + ")*3");
            Club.due("column, row of " + NAMES[square], c.rent(0, square), 13);
        }
    }

    /** Every sign, at each place of a LINE: those that can stand there, and all others. */
    private static void signsOfLines() {
        Club.says("a letter K Q R B N P (white) or k q r b n p (black), a SQUARE (two signs), two digits (PURSE)");
        for (char sign = 0; sign < 256; sign++) {
            Club c = new Club();
            String told = "sign " + (int) sign;
            Club.due("letter, " + told, c.pieces("" + sign), "KQRBNPkqrbnp".indexOf(sign) >= 0 ? -2 : -1);
            Club.due("column, " + told, c.pieces("K" + sign), sign >= 'a' && sign <= 'e' ? -3 : -2);
            Club.due("row, " + told, c.pieces("Ka" + sign), sign >= '1' && sign <= '5' ? -4 : -3);
            Club.due("first digit, " + told, c.pieces("Ka1" + sign), sign >= '0' && sign <= '9' ? -5 : -4);
            Club.due("behind a LINE, " + told, c.pieces("Ka100" + sign), sign == ';' ? -7 : -6);
            Club.due("second digit, " + told, c.pieces("Ka10" + sign), sign >= '0' && sign <= '9' ? 1 : -5);
        }
    }

    private static void kindsAndSides() {
        Club.says("KIND 0 .. 5 (king, queen, rook, bishop, knight, pawn), SIDE 0 (white) or 1 (black)");
        for (int i = 0; i < 12; i++) {
            Club c = Club.of("KQRBNPkqrbnp".charAt(i) + "c300");
            Club.due("KIND of letter " + i, c.piece(0, 0), i % 6);
            Club.due("SIDE of letter " + i, c.piece(0, 1), i / 6);
        }
    }

    private static void purses() {
        Club.says("PURSE 0 .. 99");
        int[] purses = {0, 1, 9, 10, 19, 90, 98, 99};
        for (int purse : purses) {
            Club c = Club.of("Kc3" + purse / 10 + purse % 10);
            Club.due("a PURSE", c.piece(0, 3), purse);
        }
    }

    private static void atMostEight() {
        Club.says("PIECES 0, 1, .. (at most 8)");
        Club c = new Club();
        Club.due("eight in one text", c.pieces(EIGHT), 8);
        Club.due("PIECES", c.count(0), 8);
        Club.due("a ninth", c.pieces("Re500"), -1);
        Club.due("PIECES", c.count(0), 8);
        Club.due("all that are not OUT", c.count(1), 255);
        Club.due("the eighth", c.piece(7, 3), 99);
        Club.due("piece(8, 0)", c.piece(8, 0), Club.THROWN);
        Club one = new Club();
        for (int i = 0; i < 8; i++) {
            Club.due("one more", one.pieces("K" + NAMES[3 * i] + "0" + i), 1);
            Club.due("it comes behind the others", one.piece(i, 2), 3 * i);
            Club.due("PIECES", one.count(0), i + 1);
        }
        Club.due("a ninth", one.pieces("Ke500"), -1);
        one.quarters(9);
        Club.due("all are OUT", one.count(1), 0);
        Club.due("those that are OUT leave no room", one.pieces("Ke500"), -1);
        Club.due("PIECES", one.count(0), 8);
    }

    private static void atFirst() {
        Club c = new Club();
        Club.says("TURN: a SIDE (at first 0)");
        Club.due("TURN", c.count(2), 0);
        Club.says("QUARTER (at first 0)");
        Club.due("QUARTER", c.count(3), 0);
        Club.says("MOVES (at first 0)");
        Club.due("MOVES", c.count(4), 0);
        Club.says("OUT or not (at first not");
        c.pieces("Ka100;pe500");
        Club.due("those that are not OUT", c.count(1), 3);
        Club.says("THE RULE (at first none: 3-d)");
        Club.due("RENT of a corner", c.rent(0, 0), 1);
        Club.due("RENT beside the middle", c.rent(0, 6), 2);
        Club.due("RENT of the middle", c.rent(0, 12), 3);
        Club.due("RENT for black", c.rent(1, 12), 3);
        Club.says("TURN (at first 0)");
        Club.due("TURN with PIECES", c.count(2), 0);
    }

    private static void whoIsOut() {
        Club.says("one that is OUT stands on no SQUARE");
        Club c = Club.of("Ra150;Kb150;nc300;qc150", "9*(y=2)+k-k");
        c.quarters(1);
        Club.due("those that are not OUT", c.count(1), 1 | 2 | 8);
        Club.due("its SQUARE", c.piece(2, 2), 25);
        Club.due("who stands where it stood", c.square(Club.at("c3")), 8);
        Club.due("its PURSE", c.piece(2, 3), 0);
        Club.due("its RENT", c.piece(2, 4), 0);
        Club.due("its KIND", c.piece(2, 0), 4);
        Club.due("its SIDE", c.piece(2, 1), 1);
        Club.says("one that is OUT stands on no SQUARE: it is in no one's way");
        Club way = Club.of("Ra150;nc100;re150;pd250", "9*(x=2)");
        way.quarters(1);
        Club.due("past it, to one of the other SIDE", way.goes(0), Club.bits("b1 c1 d1 e1 a2 a3 a4 a5"));
        way.rowIs("goes", 8, 1);
        Club.due("threats by one of the other SIDE past it", way.threats(0), 1 << 2);
        Club.says("one that is OUT stands on no SQUARE: k tells of it no more");
        Club near = Club.of("Ra150;nb199;rb200", "k");
        Club.due("k ahead of it", near.rent(0, 0), 2);
        near.quarters(1);
        Club.due("those that are not OUT", near.count(1), 3);
        Club.due("k behind it", near.rent(0, 0), 1);
        Club.says("one that is OUT: all that is asked of it");
        Club.due("rent", near.rent(2, 0), Club.THROWN);
        Club.due("moves", near.moves(2, 0), -2);
        Club.due("gives", near.gives(2, 0, 1), -2);
        Club.due("gives to it", near.gives(0, 2, 1), -2);
        Club.due("goes", near.goes(2), -2);
        Club.due("threats", near.threats(2), -2);
        Club.due("hops", near.hops(2, 0), -2);
        Club.due("hops to no SQUARE of a board", near.hops(2, 24), -2);
        Club.due("ways", near.ways(2, 0, 0), -2);
        Club.due("later", near.later(2, 0), -2);
        Club.due("when", near.when(2), -3);
        Club.due("needs", near.needs(2, 1), -3);
        Club.due("cheapest", near.cheapest(2), -2);
        Club.due("wanders", near.wanders(2, 1), -2);
        Club.due("stays", near.stays(2, 1), -2);
        Club.due("wages of its SIDE", near.wages(1, 9), 1);
        Club.due("its PURSE behind them", near.piece(2, 3), 0);
        Club.due("a sheet", near.sheet(2, 3, 5, 0), 10);
        Club.due("its PURSE behind it", near.piece(2, 3), 0);
        Club.due("a QUARTER DAY", near.quarters(1), 0);
        near.rowIs("a QUARTER DAY", 2);
        near.heard(1, 1);
        Club.due("fits", near.fits(), 2);
        near.odds(1, 1, 5);
        near.rowIs("odds of its SIDE", 1, 2);
    }

    private static void noTwoOnOneSquare() {
        Club.says("No two stand on one SQUARE");
        Club c = Club.of("Ka150;rb250");
        Club.due("onto one that stands there", c.pieces("Qa100"), -2);
        Club.due("onto one of the other SIDE", c.pieces("Qb200"), -2);
        Club.due("a MOVE onto one of the other SIDE", c.moves(0, Club.at("b2")), 49);
        Club.due("who stands there", c.square(Club.at("b2")), 0);
        Club.due("the other", c.piece(1, 2), 25);
        Club.due("onto the SQUARE that is left", c.pieces("Qa100"), 1);
        Club.due("onto the one to which it came", c.pieces("Qb200"), -2);
    }

    // ---- who CAN GO where

    private static boolean reaches(int kind, int side, int from, int to) {
        int right = Math.abs(to % 5 - from % 5);
        int up = Math.abs(to / 5 - from / 5);
        switch (kind) {
            case 0:
                return right + up == 1 || right * up == 1;
            case 1:
                return from != to && (right == 0 || up == 0 || right == up);
            case 2:
                return from != to && (right == 0 || up == 0);
            case 3:
                return from != to && right == up;
            case 4:
                return right * up == 2;
            default:
                return right == 0 && to / 5 - from / 5 == (side == 0 ? 1 : -1);
        }
    }

    private static void goesOnAnEmptyBoard() {
        Club.says("a king to the eight around; a rook along its row or column, a bishop along both slants, a queen along all of "
            + "these; a knight two by one; a pawn one row up (white) or down (black), if nobody stands there");
        for (int letter = 0; letter < 12; letter++) {
            for (int from = 0; from < 25; from++) {
                int want = 0;
                for (int to = 0; to < 25; to++) {
                    want |= reaches(letter % 6, letter / 6, from, to) ? 1 << to : 0;
                }
                Club c = Club.of("KQRBNPkqrbnp".charAt(letter) + NAMES[from] + "00");
                Club.due("goes of letter " + letter + " from " + NAMES[from], c.goes(0), want);
                c.rowIs("goes", Integer.bitCount(want), 0);
            }
        }
    }

    /** One from the middle in each direction; from one of the lines there is nothing to be seen behind another piece. */
    private static void goesPastNoPiece() {
        int[] right = {1, 1, 0, -1, -1, -1, 0, 1};
        int[] up = {0, 1, 1, 1, 0, -1, -1, -1};
        for (int i = 0; i < 8; i++) {
            int near = 12 + right[i] + 5 * up[i];
            int far = near + right[i] + 5 * up[i];
            int straight = Club.bits("a3 b3 d3 e3 c1 c2 c4 c5");
            int slant = Club.bits("a1 b2 d4 e5 e1 d2 b4 a5");
            boolean slants = right[i] != 0 && up[i] != 0;
            for (String letters : new String[] {"QP", "Qp", "qp", "qP", "RP", "Rp", "BP", "Bp"}) {
                boolean foe = Character.isUpperCase(letters.charAt(0)) != Character.isUpperCase(letters.charAt(1));
                char kind = Character.toUpperCase(letters.charAt(0));
                Club c = Club.of(letters.charAt(0) + "c300;" + letters.charAt(1) + NAMES[near] + "00");
                int all = kind == 'Q' ? straight | slant : kind == 'R' ? straight : slant;
                int hidden = foe ? 1 << far : 1 << far | 1 << near;
                int want = all & ~hidden;
                boolean onLine = kind == 'Q' || (kind == 'B') == slants;
                Club.says("a queen along all of these, past no piece, not to a SQUARE on which one of its SIDE stands");
                Club.due("goes of " + letters + " beside " + NAMES[near], c.goes(0), want);
                c.rowIs("goes", Integer.bitCount(want), foe && onLine ? 1 : 0);
                Club rim = Club.of(letters.charAt(0) + "c300;" + letters.charAt(1) + NAMES[far] + "00");
                Club.due("goes of " + letters + " towards " + NAMES[far], rim.goes(0), foe ? all : all & ~(1 << far));
            }
        }
        Club.says("a king to the eight around, not to a SQUARE on which one of its SIDE stands");
        Club c = Club.of("Kc300;Pb200;Pc200;pd200;Pb300;pd300;pb400;pc400");
        Club.due("a king among seven", c.goes(0), Club.bits("d2 d3 b4 c4 d4"));
        c.rowIs("a king among seven", 5, 4);
    }

    private static void goesFromCorners() {
        Club.says("a rook along its row or column, a bishop along both slants, past no piece");
        String[] rows = {"b1", "c1", "d1", "e1"};
        String[] slants = {"b2", "c3", "d4", "e5"};
        for (int i = 0; i < 4; i++) {
            int row = 0;
            int slant = 0;
            for (int j = 0; j <= i; j++) {
                row |= 1 << Club.at(rows[j]);
                slant |= 1 << Club.at(slants[j]);
            }
            Club rook = Club.of("Ra100;n" + rows[i] + "00");
            Club.due("a rook to " + rows[i], rook.goes(0), row | Club.bits("a2 a3 a4 a5"));
            Club bishop = Club.of("Ba100;n" + slants[i] + "00");
            Club.due("a bishop to " + slants[i], bishop.goes(0), slant);
            Club queen = Club.of("Qa100;N" + slants[i] + "00");
            int open = slant & ~(1 << Club.at(slants[i]));
            Club.due("a queen towards " + slants[i], queen.goes(0), open | Club.bits("b1 c1 d1 e1 a2 a3 a4 a5"));
        }
    }

    private static void jumps() {
        Club.says("a knight two by one (over whom it will)");
        Club c = Club.of("Nc300;Pb200;pc200;Pd200;pb300;Pd300;pb400;Pc400");
        Club.due("a knight among seven", c.goes(0), Club.bits("b1 d1 a2 e2 a4 e4 b5 d5"));
        c.rowIs("a knight among seven", 8, 0);
        Club to = Club.of("Nc300;Pb100;pd100;Pa200;pe200;Pa400;pe400;pb500");
        Club.due("a knight that takes", to.goes(0), Club.bits("d1 e2 e4 b5 d5"));
        to.rowIs("a knight that takes", 5, 4);
    }

    private static void pawns() {
        Club.says("a pawn one row up (white) or down (black), if nobody stands there");
        Club.due("one of its SIDE ahead", Club.of("Pc300;Nc400").goes(0), 0);
        Club.due("one of the other SIDE ahead", Club.of("Pc300;nc400").goes(0), 0);
        Club.due("black's, one of its SIDE ahead", Club.of("pc300;nc200").goes(0), 0);
        Club.due("black's, one of the other SIDE ahead", Club.of("pc300;Nc200").goes(0), 0);
        Club.due("one two rows ahead", Club.of("Pc200;nc400").goes(0), Club.bits("c3"));
        Club.due("never two rows, from the second", Club.of("Pc200").goes(0), Club.bits("c3"));
        Club.due("black's, never two rows", Club.of("pc400").goes(0), Club.bits("c3"));
        Club.says("a pawn slantwise one row so, if one of the other SIDE does stand there");
        Club.due("both", Club.of("Pc300;nb400;nd400").goes(0), Club.bits("b4 c4 d4"));
        Club.due("left", Club.of("Pc300;nb400;Nd400").goes(0), Club.bits("b4 c4"));
        Club.due("right", Club.of("Pc300;Nb400;nd400").goes(0), Club.bits("c4 d4"));
        Club.due("none of its SIDE", Club.of("Pc300;Nb400;Nd400").goes(0), Club.bits("c4"));
        Club.due("not backwards", Club.of("Pc300;nb200;nd200;nc200").goes(0), Club.bits("c4"));
        Club.due("not beside", Club.of("Pc300;nb300;nd300").goes(0), Club.bits("c4"));
        Club.due("slantwise where it is blocked ahead", Club.of("Pc300;nb400;nc400").goes(0), Club.bits("b4"));
        Club.due("black's, both", Club.of("pc300;Nb200;Nd200").goes(0), Club.bits("b2 c2 d2"));
        Club.due("black's, none of its SIDE", Club.of("pc300;nb200;nd200").goes(0), Club.bits("c2"));
        Club.due("black's, not backwards", Club.of("pc300;Nb400;Nc400;Nd400").goes(0), Club.bits("c2"));
    }

    private static void pawnsAtTheEdge() {
        Club.says("a pawn slantwise one row so (not past an edge)");
        Club.due("white at the left", Club.of("Pa300;ne300;nb400;ne400").goes(0), Club.bits("a4 b4"));
        Club.due("white at the right", Club.of("Pe200;na300;na400;nd300").goes(0), Club.bits("d3 e3"));
        Club.due("black at the left", Club.of("pa300;Ne100;Ne200;Nb200").goes(0), Club.bits("a2 b2"));
        Club.due("black at the right", Club.of("pe300;Na200;Na300;Nd200").goes(0), Club.bits("d2 e2"));
        Club.says("a pawn one row up (white) or down (black): none behind the last row");
        Club white = Club.of("Pc500;nb400;nd400;nb500;nc100");
        Club.due("white on the last row", white.goes(0), 0);
        white.rowIs("white on the last row", 0, 0);
        Club black = Club.of("pc100;Nb200;Nd200;Nb100;Nc500");
        Club.due("black on the last row", black.goes(0), 0);
        Club.due("its KIND, as it came there by no MOVE", white.piece(0, 0), 5);
        Club.due("its KIND, as it came there by no MOVE", black.piece(0, 0), 5);
    }

    // ---- a MOVE

    private static void captures() {
        Club.says("one of the other SIDE that stands there is OUT, and its PURSE comes to the PURSE of the piece (99 at most; "
            + "the other's is 0)");
        int[][] purses = {{50, 48, 98}, {50, 49, 99}, {50, 50, 99}, {99, 99, 99}, {0, 0, 0}, {0, 99, 99}, {99, 0, 99}, {99, 1, 99}};
        for (int[] p : purses) {
            Club c = Club.of("Ka1" + p[0] / 10 + p[0] % 10 + ";nb2" + p[1] / 10 + p[1] % 10);
            Club.due("moves of " + p[0] + " to " + p[1], c.moves(0, Club.at("b2")), p[2] - p[0]);
            Club.due("its PURSE", c.piece(0, 3), p[2]);
            Club.due("the other's PURSE", c.piece(1, 3), 0);
            Club.due("the other's SQUARE", c.piece(1, 2), 25);
            Club.due("those that are not OUT", c.count(1), 1);
            Club.due("its own SQUARE", c.piece(0, 2), Club.at("b2"));
            c.rowIs("moves", p[2], 0);
        }
        Club none = Club.of("Ka150;nb250;nc350");
        Club.due("a MOVE to where nobody stands", none.moves(0, Club.at("b1")), 0);
        Club.due("those that are not OUT", none.count(1), 7);
        none.rowIs("a MOVE to where nobody stands", 50, 0);
    }

    private static void queens() {
        Club.says("a pawn that comes to the last row (4 for white, 0 for black) is a queen from then on");
        Club c = Club.of("Pa350;Ke110;pe350;ra550");
        Club.due("to row 3", c.moves(0, Club.at("a4")), 0);
        c.rowIs("to row 3", 50, 5);
        Club.due("black's to row 1", c.moves(2, Club.at("e2")), 0);
        c.rowIs("black's to row 1", 50, 5);
        c.moves(1, Club.at("d1"));
        c.moves(3, Club.at("b5"));
        Club.due("by a capture", c.moves(0, Club.at("b5")), 49);
        c.rowIs("by a capture", 99, 1);
        Club.due("black's", c.moves(2, Club.at("e1")), 0);
        c.rowIs("black's", 50, 1);
        Club.due("its KIND", c.piece(2, 0), 1);
        Club.due("where it can go as a queen", c.goes(2), Club.bits("d1 e2 e3 e4 e5 d2 c3 b4 a5"));
        Club.due("away from the last row", c.moves(0, Club.at("b3")), 0);
        c.rowIs("from then on", 99, 1);
        Club.due("black's away", c.moves(2, Club.at("e3")), 0);
        c.rowIs("from then on", 50, 1);
        Club.due("undone ahead of it", c.undo(), 7);
        c.undo();
        c.undo();
        Club.due("its KIND as it was", c.piece(2, 0), 5);
        Club.says("a pawn (no other) is a queen");
        for (int i = 0; i < 5; i++) {
            Club white = Club.of("KQRBN".charAt(i) + "c450;" + "kqrbn".charAt(i) + "a250");
            int to = i == 4 ? Club.at("a5") : i == 3 ? Club.at("b5") : Club.at("c5");
            white.moves(0, to);
            Club.due("KIND of a white one on row 4", white.piece(0, 0), i);
            int down = i == 4 ? Club.at("c1") : i == 3 ? Club.at("b1") : Club.at("a1");
            white.moves(1, down);
            Club.due("KIND of a black one on row 0", white.piece(1, 0), i);
        }
    }

    private static void turnsAndMoves() {
        Club.says("TURN is the other SIDE's; MOVES are 1 more");
        Club c = Club.of("Ka150;ke550");
        for (int i = 1; i <= 5; i++) {
            int piece = 1 - i % 2;
            int home = piece == 0 ? 0 : 24;
            int away = piece == 0 ? 1 : 23;
            Club.due("a MOVE", c.moves(piece, c.piece(piece, 2) == home ? away : home), 0);
            Club.due("TURN", c.count(2), i % 2);
            Club.due("MOVES", c.count(4), i);
            Club.due("QUARTER", c.count(3), 0);
        }
    }

    // ---- a QUARTER DAY

    private static void quarterDays() {
        Club.says("if its PURSE is that much or more, it is so much less; else it is OUT, its PURSE is 0");
        Club c = Club.of("Ka104;Qc105;re106;pe500", "5");
        Club.due("one day", c.quarters(1), 2);
        c.rowIs("one day", 10);
        Club.due("less than RENT", c.piece(0, 2), 25);
        Club.due("its PURSE", c.piece(0, 3), 0);
        Club.due("as much as RENT", c.piece(1, 2), 2);
        Club.due("its PURSE", c.piece(1, 3), 0);
        Club.due("more than RENT", c.piece(2, 2), 4);
        Club.due("its PURSE", c.piece(2, 3), 1);
        Club.due("nothing", c.piece(3, 2), 25);
        Club.due("QUARTER", c.count(3), 1);
        Club free = Club.of("Ka100", "0");
        Club.due("RENT 0 of nothing", free.quarters(1), 0);
        Club.due("it stays", free.piece(0, 2), 0);
        Club.says("RENT of its SQUARE (all as all is ahead of it)");
        Club all = Club.of("Ka100;Kb101;kc101;kd100", "k");
        Club.due("one day", all.quarters(1), 4);
        all.rowIs("one day", 0);
        Club.due("by two around, the first of them OUT by then", all.piece(1, 2), 25);
        Club row = Club.of("ka102;kb102;kc102", "k");
        Club.due("two days", row.quarters(2), 1);
        row.rowIs("two days", 4 + 2);
        Club.due("PURSES", row.count(6), 0);
        Club.says("QUARTER is 1 more");
        Club.due("QUARTER", all.count(3), 1);
        Club nobody = new Club();
        Club.due("a QUARTER DAY without PIECES", nobody.quarters(1), 0);
        Club.due("QUARTER", nobody.count(3), 1);
        all.quarters(9);
        Club.due("all are OUT", all.count(1), 0);
        Club.due("a QUARTER DAY of those that are OUT", all.quarters(1), 0);
        all.rowIs("a QUARTER DAY of those that are OUT", 0);
        Club.due("QUARTER", all.count(3), 11);
        Club.says("QUARTER is 1 more (TURN, MOVES are as they were)");
        Club.due("TURN", all.count(2), 0);
        Club.due("MOVES", all.count(4), 0);
        Club.says("RENT (of the QUARTER as it is ahead of it)");
        Club day = Club.of("Ka199", "n");
        Club.due("nine days", day.quarters(9), 0);
        day.rowIs("nine days", 0 + 1 + 2 + 3 + 4 + 5 + 6 + 0 + 1);
    }
}
