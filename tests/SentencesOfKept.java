/** Promises 44 to 47, sentence by sentence. */
public final class SentencesOfKept {
    private static final long THROWN = Club.THROWN;
    private static final int LEAST = Club.LEAST;
    private static final int MOST = Club.MOST;

    public static void main(String[] args) {
        keep();
        again();
        againRefused();
        againLeaves();
        counts();
        countsAsTheyGo();
        rows();
        rowsOfEachCall();
        Club.finish("SentencesOfKept");
    }

    // ---- keep, again

    private static void keep() {
        Club.promise(44);
        Club.says("What undo() brings back is kept under a number 0 .. 1: true. Refused: others");
        Club c = Club.of("Pa450;rb550;ke105", "5");
        for (int i : new int[] {-1, 2, 3, LEAST, MOST}) {
            Club.due("keep(" + i + ")", c.keep(i), false);
        }
        String first = c.state();
        Club.due("keep(0)", c.keep(0), true);
        Club.due("nothing changes", c.state(), first);
        c.moves(0, Club.at("b5"));
        c.quarters(2);
        String second = c.state();
        Club.due("it", second, "TURN 1 QUARTER 2 MOVES 1 1/0/21/89 2/1/25/0 0/1/25/0");
        Club.due("keep(1)", c.keep(1), true);
        Club.due("what can be undone stays", c.count(9), 2);
        c.passes();
        c.wages(0, 9);
        Club.due("again(0)", c.again(0), true);
        Club.due("it", c.state(), first);
        Club.due("again(1)", c.again(1), true);
        Club.due("it", c.state(), second);
        Club.due("again(0)", c.again(0), true);
        Club.due("it", c.state(), first);
        Club.says("is kept under a number (anew, in place of what was kept)");
        c.passes();
        String third = c.state();
        Club.due("keep(0)", c.keep(0), true);
        c.passes();
        c.again(0);
        Club.due("it", c.state(), third);
        c.again(1);
        Club.due("the other one", c.state(), second);
        Club.says("is kept (what comes behind it does not change it)");
        c.quarters(1);
        c.undo();
        c.gives(0, 0, 1);
        c.again(1);
        Club.due("it", c.state(), second);
    }

    private static void again() {
        Club.promise(45);
        Club.says("It is as it was kept under a number");
        Club c = Club.of("Ka150;rb250;nc300");
        c.keep(1);
        String kept = c.state();
        c.sheet(3, 0, 0, 0);
        c.again(1);
        Club.due("PURSES behind a sheet()", c.state(), kept);
        c.quarters(60);
        c.again(1);
        Club.due("PIECES that went OUT", c.state(), kept);
        c.moves(0, 6);
        c.again(1);
        Club.due("TURN, MOVES, the one that was taken", c.state(), kept);
        Club.due("again(1) once more", c.again(1), true);
        Club none = new Club();
        none.keep(0);
        none.passes();
        none.quarters(3);
        Club.due("without PIECES", none.again(0), true);
        Club.due("without PIECES", none.state(), "TURN 0 QUARTER 0 MOVES 0");
    }

    private static void againRefused() {
        Club.says("Refused: nothing kept");
        Club c = Club.of("Ka150;rb250");
        Club.due("again(0)", c.again(0), false);
        Club.due("again(1)", c.again(1), false);
        c.keep(1);
        Club.due("again(0), the other is kept", c.again(0), false);
        for (int i : new int[] {-1, 2, 3, LEAST, MOST}) {
            Club.due("again(" + i + ")", c.again(i), false);
        }
        Club.says("Refused: PIECES came since");
        c.passes();
        c.pieces("");
        Club.due("behind an empty pieces()", c.again(1), true);
        c.pieces("?");
        c.pieces("Ka100");
        Club.due("behind a pieces() that is refused", c.again(1), true);
        c.pieces("Kc150");
        c.passes();
        String then = c.state();
        Club.due("behind pieces()", c.again(1), false);
        Club.due("nothing changes", c.state(), then);
        Club.due("what can be undone stays", c.count(9), 1);
        Club.due("kept anew", c.keep(1), true);
        Club.due("again(1)", c.again(1), true);
        Club.due("it", c.state(), then);
        c.keep(0);
        c.pieces("Kd150");
        Club.due("behind pieces() again", c.again(0), false);
        Club.due("behind pieces() again", c.again(1), false);
        Club none = new Club();
        none.keep(0);
        none.pieces("Ka150");
        Club.due("the first PIECES", none.again(0), false);
        Club.due("they stay", none.count(0), 1);
    }

    private static void againLeaves() {
        Club.says("It is as it was kept (PIECES, TURN, QUARTER, MOVES; all else is as it is now)");
        Club c = Club.of("Ka150;rb250", "1");
        c.heard(0, 0);
        c.saw(0, 1);
        c.keep(0);
        c.heard(0, 1);
        c.saw(0, 2);
        c.rule("7");
        c.put("9");
        c.rests(0);
        c.passes();
        c.again(0);
        Club.due("what was heard", c.count(7), 2);
        Club.due("what was seen", c.count(8), 2);
        Club.due("what can be undone", c.count(9), 0);
        Club.due("signs of THE TEXT", c.count(11), 1);
        Club.due("RENT by THE RULE", c.piece(0, 4), 7);
        c.rowIs("the ROW stays", 0, 0);
    }

    // ---- count

    private static void counts() {
        Club.promise(46);
        String[] says = {"0: PIECES", "1: which are not OUT (bits)", "2: TURN", "3: QUARTER", "4: MOVES",
            "5: PURSES of white together", "6: PURSES of black together", "7: what was heard", "8: what was seen",
            "9: what can be undone", "10: numbers of the ROW", "11: signs of THE TEXT"};
        Club c = Club.of("Ka150;rb202;Qc310;pe431;ne199", "3");
        c.moves(0, 1);
        c.quarters(1);
        c.heard(0, 0);
        c.heard(0, 0);
        c.heard(0, 0);
        c.heard(0, 0);
        c.saw(0, 0);
        c.saw(0, 0);
        c.saw(0, 0);
        c.sign(0);
        c.sign(0);
        c.end(7);
        int[] due = {5, 1 | 4 | 8 | 16, 1, 1, 1, 47 + 7, 28 + 96, 4, 3, 2, 1, 7};
        for (int what = 0; what < 12; what++) {
            Club.says(says[what]);
            Club.due("count(" + what + ")", c.count(what), due[what]);
        }
        Club.says("NONE for another what");
        for (int what : new int[] {-1, 12, 13, LEAST, MOST}) {
            Club.due("count(" + what + ")", c.count(what), -1);
        }
    }

    private static void countsAsTheyGo() {
        Club.says("What 0: PIECES (those that are OUT, too)");
        Club c = Club.of("Ka100;rb200");
        c.quarters(1);
        Club.due("count(0)", c.count(0), 2);
        Club.due("count(1)", c.count(1), 0);
        Club.due("count(5)", c.count(5), 0);
        Club.says("5, 6: PURSES together");
        Club rich = Club.of("Ka199;Kb199;Kc199;Kd199;Ke199;Ka399;Kb399;Kc399");
        Club.due("count(5)", rich.count(5), 792);
        Club.due("count(6)", rich.count(6), 0);
        Club.due("count(1)", rich.count(1), 255);
        Club.says("2: TURN, 4: MOVES, 9: what can be undone");
        Club more = Club.of("Ka199;ke599", "0");
        for (int i = 1; i <= 14; i++) {
            more.moves(1 - i % 2, i % 2 == 1 ? i / 2 % 2 == 0 ? 1 : 0 : i / 2 % 2 == 0 ? 24 : 23);
            Club.due("count(2)", more.count(2), i % 2);
            Club.due("count(4)", more.count(4), i);
            Club.due("count(9)", more.count(9), Math.min(i, 12));
        }
    }

    // ---- row

    private static void rows() {
        Club.promise(47);
        Club.says("Number i of the ROW. NoSuchElementException: none such");
        Club c = Club.of("Ka150;rb200");
        for (int i : new int[] {0, 1, -1, LEAST, MOST}) {
            Club.due("row(" + i + ") of none", c.row(i), THROWN);
        }
        c.law("0");
        long[] due = {2, 1, 0, 8};
        for (int i = 0; i < 4; i++) {
            Club.due("row(" + i + ")", c.row(i), due[i]);
        }
        for (int i : new int[] {4, 5, 25, -1, -2, LEAST, MOST}) {
            Club.due("row(" + i + ") of four", c.row(i), THROWN);
        }
        c.quarters(0);
        Club.due("row(0) of one", c.row(0), 0);
        Club.due("row(1) of one", c.row(1), THROWN);
        c.knights(0, 0);
        Club.due("row(0) of none", c.row(0), THROWN);
        Club.says("long row(int i): a number beyond ints would be told, too");
        Club eight = Club.of("Ka150;Kb150;Kc150;Kd150;Ke150;Ka250;Kb250;Kc250");
        eight.odds(0, 1, 9);
        Club.due("row(0)", eight.row(0), 56953279);
        Club.due("row(1)", eight.row(1), 100000000);
    }

    private static void numbers(String what, int got, Club c, int numbers) {
        Club.due(what + " is refused", got < 0, false);
        Club.due("numbers told by " + what, c.count(10), numbers);
    }

    private static void rowsOfEachCall() {
        Club.terms(2);
        Club.says("ROW: numbers told last by a call that says so");
        Club c = Club.of("Ka150;rb250;Pe250;nc350", "1");
        numbers("law", c.law("2") + 4, c, 4);
        numbers("quarters", c.quarters(1), c, 1);
        numbers("goes", c.goes(0), c, 2);
        numbers("threats", c.threats(0), c, 1);
        numbers("hops", c.hops(0, Club.at("a4")), c, 3);
        numbers("owes", c.owes(0), c, 2);
        numbers("when", c.when(0), c, 1);
        numbers("later", c.later(0, 5), c, 2);
        numbers("wanders", c.wanders(0, 6), c, 6);
        numbers("stays", c.stays(0, 5), c, 1);
        numbers("cheapest", c.cheapest(0), c, 2);
        numbers("best", c.best(), c, 1);
        numbers("looks", c.looks(2), c, 2);
        numbers("fits", c.fits(), c, 1);
        numbers("choices", c.choices(), c, 2);
        numbers("asks", c.asks(), c, 1);
        numbers("laws", c.laws(), c, 2);
        numbers("sees", c.sees(), c, 1);
        numbers("odds", c.odds(0, 1, 5), c, 2);
        numbers("hops", c.hops(0, 0), c, 0);
        numbers("knights", c.knights(3, 3), c, 2);
        numbers("looks", c.looks(1), c, 1);
        numbers("rests", c.rests(6), c, 2);
        numbers("looks", c.looks(0), c, 0);
        numbers("years", c.years(5, 5), c, 2);
        numbers("rests", c.rests(12), c, 0);
        numbers("game", c.game("n1"), c, 2);
        numbers("knights", c.knights(1, 1), c, 0);
        numbers("moves", c.moves(0, 5), c, 2);
    }
}
