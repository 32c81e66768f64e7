/** Promises 21 to 27, sentence by sentence. */
public final class SentencesOfRents {
    private static final int LEAST = Club.LEAST;
    private static final int MOST = Club.MOST;
    private static final int ALL = (1 << 25) - 1;

    public static void main(String[] args) {
        owes();
        later();
        laterThatCannotBe();
        when();
        whenOnNone();
        needs();
        needsByNone();
        cheapest();
        cheapestOfEqualOnes();
        wanders();
        wandersOnlyWhereNobodyStands();
        wandersOfPawns();
        wandersThatCannotBe();
        stays();
        staysWhereNobodyElseStands();
        staysThatCannotBe();
        Club.finish("SentencesOfRents");
    }

    private static int at(String name) {
        return Club.at(name);
    }

    // ---- owes

    private static void owes() {
        Club.promise(21);
        Club.says("What a SIDE owes at the next QUARTER DAY: it; the ROW: what its PURSES have, which of its PIECES have less than "
            + "their RENT (bits)");
        Club c = Club.of("Ka104;rb105;Qc106;ne199;Pe500", "5");
        Club.due("white's", c.owes(0), 15);
        c.rowIs("white's", 10, 1 | 16);
        Club.due("black's", c.owes(1), 10);
        c.rowIs("black's", 104, 0);
        c.passes();
        Club.due("white's, whosever TURN", c.owes(0), 15);
        c.quarters(1);
        Club.due("white's that are not OUT", c.owes(0), 5);
        c.rowIs("white's that are not OUT", 1, 4);
        Club.due("black's, one with nothing", c.owes(1), 10);
        c.rowIs("black's, one with nothing", 94, 2);
        Club none = Club.of("ra150;na550", "7");
        Club.due("of no piece", none.owes(0), 0);
        none.rowIs("of no piece", 0, 0);
        Club.due("without PIECES", new Club().owes(1), 0);
        Club.says("What a SIDE owes at the next QUARTER DAY (RENT of each as it is ahead of it)");
        Club near = Club.of("Ka100;Kb103;kc150", "k+n");
        Club.due("one that will be OUT is around", near.owes(0), 1 + 2);
        near.rowIs("one that will be OUT is around", 3, 1);
        Club.says("NONE: another SIDE");
        for (int side : new int[] {-1, 2, 3, LEAST, MOST}) {
            Club.due("owes(" + side + ")", c.owes(side), -1);
        }
    }

    // ---- later

    private static void later() {
        Club.promise(22);
        Club.says("PURSE of a piece behind n QUARTER DAYS (0 .. 60; 100: it is OUT); the ROW: which PIECES are not OUT then (bits), "
            + "PURSES of all together then");
        Club c = Club.of("Ka107;rb199;nc360;ke500", "1");
        Club.due("behind none", c.later(0, 0), 7);
        c.rowIs("behind none", 15, 166);
        Club.due("behind 1", c.later(0, 1), 6);
        c.rowIs("behind 1", 7, 6 + 98 + 59);
        Club.due("behind 7", c.later(0, 7), 0);
        c.rowIs("behind 7", 7, 0 + 92 + 53);
        Club.due("behind 8", c.later(0, 8), 100);
        c.rowIs("behind 8", 6, 91 + 52);
        Club.due("behind 60", c.later(2, 60), 0);
        c.rowIs("behind 60", 6, 39);
        Club.due("of one that goes OUT at once", c.later(3, 1), 100);
        Club.due("behind 60, 99", c.later(1, 60), 39);
        c.quarters(0);
        Club.due("QUARTER", c.count(3), 0);
        Club.says("PURSE of a piece (99, not 100, if it pays nothing)");
        Club free = Club.of("Ka199", "0");
        Club.due("behind 60", free.later(0, 60), 99);
        free.rowIs("behind 60", 1, 99);
        Club.says("PURSE behind n QUARTER DAYS (RENT of each QUARTER, from the one now on; others go OUT by then)");
        Club n = Club.of("Ka199;rb204;nc350", "n+k");
        n.quarters(1);
        Club.due("the rook is OUT on the first of them", n.later(0, 3), 98 - (1 + 1) - 2 - 3);
        Club.due("PURSE as it is", n.piece(0, 3), 98);
    }

    private static void laterThatCannotBe() {
        Club.says("-2: it is OUT now");
        Club c = Club.of("Ka150;rb100");
        c.quarters(1);
        Club.due("later(1, 0)", c.later(1, 0), -2);
        Club.due("later(1, 60)", c.later(1, 60), -2);
        c.rowIs("the ROW stays", 1);
        Club.says("NONE: others");
        for (int n : new int[] {-1, 61, 62, LEAST, MOST}) {
            Club.due("later(0, " + n + ")", c.later(0, n), -1);
            Club.due("later(1, " + n + ") of one that is OUT", c.later(1, n), -1);
        }
        for (int p : new int[] {-1, 2, 8, LEAST, MOST}) {
            Club.due("later(" + p + ", 1)", c.later(p, 1), -1);
        }
    }

    // ---- when

    private static void when() {
        Club.promise(23);
        Club.says("On which of the next 60 QUARTER DAYS (1 ..) a piece goes OUT: it; the ROW: how many go OUT on that day");
        Club c = Club.of("Ka100;rb102;nc302;ke559;Pe460", "1");
        Club.due("on the first", c.when(0), 1);
        c.rowIs("on the first", 1);
        Club.due("on the third", c.when(1), 3);
        c.rowIs("on the third", 2);
        Club.due("on the third", c.when(2), 3);
        c.rowIs("on the third", 2);
        Club.due("on the 60th", c.when(3), 60);
        c.rowIs("on the 60th", 1);
        Club.due("QUARTER", c.count(3), 0);
        c.quarters(2);
        Club.due("on the first from now on", c.when(1), 1);
        c.rowIs("on the first from now on", 2);
        Club.due("on the 59th from now on", c.when(4), 59);
        Club.says("a piece goes OUT (RENT of each QUARTER as it comes)");
        Club days = Club.of("Ka110", "n");
        Club.due("1 and 2 and 3 and 4 are 10", days.when(0), 6);
        Club near = Club.of("Ka103;rb201", "k");
        Club.due("one around goes OUT ahead of it", near.when(1), 2);
        Club.due("it stays on behind that", Club.of("Ka103;rb201", "k").when(0), -2);
    }

    private static void whenOnNone() {
        Club.says("-2: on none");
        Club c = Club.of("Ka160;rb161;nc399;ke500", "1");
        c.rests(0);
        Club.due("60 is enough for 60", c.when(0), -2);
        Club.due("61", c.when(1), -2);
        c.rowIs("the ROW stays", 0, 0);
        Club.due("nothing is to be paid", Club.of("Ka100", "0").when(0), -2);
        Club.says("-3: it is OUT");
        c.quarters(1);
        Club.due("when(3)", c.when(3), -3);
        c.rule("0");
        Club.due("when(3), nothing is to be paid", c.when(3), -3);
        Club.says("NONE: none such");
        for (int p : new int[] {-1, 4, 8, LEAST, MOST}) {
            Club.due("when(" + p + ")", c.when(p), -1);
        }
        c.rowIs("the ROW stays", 3);
    }

    // ---- needs

    private static void needs() {
        Club.promise(24);
        Club.says("The least PURSE (0 .. 99, in place of its own) by which a piece is not OUT behind n QUARTER DAYS (1 .. 20): it");
        Club c = Club.of("Ka100;rb199;nc350", "4");
        Club.due("one day", c.needs(0, 1), 4);
        Club.due("its own is of no matter", c.needs(1, 1), 4);
        Club.due("20 days", c.needs(0, 20), 80);
        Club.due("nothing", Club.of("Ka150", "0").needs(0, 20), 0);
        Club.due("one more day than one lasts by itself", Club.of("Ka150", "0-1").needs(0, 1), 0);
        c.rowIs("it tells no ROW", new long[0]);
        Club.says("The least PURSE (RENT of each QUARTER; others pay or go)");
        Club days = Club.of("Ka100", "n");
        Club.due("from QUARTER 0 on", days.needs(0, 8), 21);
        Club.due("one day of QUARTER 0", days.needs(0, 1), 0);
        days.quarters(1);
        Club.due("from QUARTER 1 on", days.needs(0, 8), 22);
        Club near = Club.of("Ka100;rb202;nc100", "k*3");
        Club.due("one around is OUT behind the first day", near.needs(0, 5), 3);
        Club.due("two around are OUT behind the first day", near.needs(1, 5), 6);
        Club lasts = Club.of("Ka199;rb299", "k*3");
        Club.due("one around that stays", lasts.needs(0, 5), 15);
    }

    private static void needsByNone() {
        Club.says("-2: by none (99 is the most)");
        Club c = Club.of("Ka199;rb100", "11");
        Club.due("99", c.needs(0, 9), 99);
        Club.due("110", c.needs(0, 10), -2);
        c.rule("20");
        Club.due("80", c.needs(0, 4), 80);
        Club.due("100", c.needs(0, 5), -2);
        Club.due("400", c.needs(0, 20), -2);
        c.rule("33*(n=3)+9");
        Club.due("three days of 9, one of 20, six of 9", c.needs(0, 10), -2);
        Club.due("three days of 9, one of 20, five of 9", c.needs(0, 9), 92);
        Club.says("-3: it is OUT");
        c.quarters(1);
        Club.due("needs(1, 1)", c.needs(1, 1), -3);
        c.rule("0");
        Club.due("needs(1, 20)", c.needs(1, 20), -3);
        Club.says("NONE: others");
        for (int n : new int[] {-1, 0, 21, 22, LEAST, MOST}) {
            Club.due("needs(0, " + n + ")", c.needs(0, n), -1);
            Club.due("needs(1, " + n + ") of one that is OUT", c.needs(1, n), -1);
        }
        for (int p : new int[] {-1, 2, 8, LEAST, MOST}) {
            Club.due("needs(" + p + ", 1)", c.needs(p, 1), -1);
        }
    }

    // ---- cheapest

    private static void cheapest(String lines, String rule, String square, int rent, int own) {
        Club c = Club.of(lines, rule);
        Club.due("cheapest of " + lines + " by " + rule, c.cheapest(0), at(square));
        c.rowIs("cheapest of " + lines + " by " + rule, rent, own);
    }

    private static void cheapest() {
        Club.promise(25);
        Club.says("The SQUARE of its own and those to which a piece CAN GO and nobody stands, for which RENT, stood it there (as "
            + "rent()), is the least: it; the ROW: that RENT, RENT of its own");
        cheapest("Kc300", "", "b2", 2, 3);
        cheapest("Kc300", "9-8*(x=3)*(y=1)", "d2", 1, 9);
        cheapest("Kc300", "9-8*(x=2)*(y=2)", "c3", 1, 1);
        cheapest("Kc300", "9-8*(x=4)", "b2", 9, 9);
        cheapest("Rc300", "9-8*(x=4)", "e3", 1, 9);
        cheapest("Kc300;nd200", "9-8*(x=3)*(y=1)", "b2", 9, 9);
        cheapest("Kc300;Nd200", "9-8*(x=3)*(y=1)", "b2", 9, 9);
        cheapest("Rc300;nd300", "9-8*(x=4)", "c1", 9, 9);
        cheapest("Pc300;nd400", "9-8*(x=3)", "c3", 9, 9);
        cheapest("Pc300;nd400", "9-8*(y=3)", "c4", 1, 9);
        cheapest("Pc300;nc400", "9-8*(y=3)", "c3", 9, 9);
        cheapest("kc300", "9-8*(x=2)*(y=2)", "c3", 1, 1);
        Club.says("RENT, stood it there (as rent())");
        cheapest("Kb200;na100;nc200", "k*4", "a3", 0, 8);
        cheapest("Kb200", "k*4", "a1", 0, 0);
        Club c = Club.of("Ka150", "n*(x=0)");
        c.quarters(3);
        Club.due("in QUARTER 3", c.cheapest(0), at("b1"));
        c.rowIs("in QUARTER 3", 0, 3);
        cheapest("Pa400", "q*3", "a4", 15, 15);
    }

    private static void cheapestOfEqualOnes() {
        Club.says("of equal ones the first");
        cheapest("Kc300", "5", "b2", 5, 5);
        cheapest("Ka100", "5", "a1", 5, 5);
        cheapest("Ke500", "5", "d4", 5, 5);
        cheapest("Rc300", "5", "c1", 5, 5);
        cheapest("pc300", "5", "c2", 5, 5);
        cheapest("Pc300", "5", "c3", 5, 5);
        cheapest("Kc300", "99", "b2", 20, 20);
        cheapest("Kc300", "0", "b2", 0, 0);
        cheapest("Ka100;nb100;na200;nb200", "5", "a1", 5, 5);
        Club.says("-2: it is OUT");
        Club c = Club.of("Ka150;rb100");
        c.quarters(1);
        Club.due("cheapest(1)", c.cheapest(1), -2);
        Club.says("NONE: none such");
        for (int p : new int[] {-1, 2, 8, LEAST, MOST}) {
            Club.due("cheapest(" + p + ")", c.cheapest(p), -1);
        }
        c.rowIs("the ROW stays", 1);
    }

    // ---- wanders

    private static void wanders(String lines, String rule, int n, int want, String way) {
        Club c = Club.of(lines, rule);
        Club.due("wanders of " + lines + " by " + rule, c.wanders(0, n), want);
        long[] squares = new long[n];
        for (int i = 0; i < n; i++) {
            squares[i] = at(way.substring(3 * i, 3 * i + 2));
        }
        c.rowIs("wanders of " + lines + " by " + rule, squares);
    }

    private static void wanders() {
        Club.promise(26);
        Club.says("A piece may, ahead of each of the next n QUARTER DAYS (1 .. 6), go to a SQUARE, or stay: the least RENTS of all "
            + "these together; the ROW: the SQUARES");
        wanders("Kc300", "", 1, 2, "b2");
        wanders("Kc300", "", 2, 3, "b2 a1");
        wanders("Kc300", "", 6, 7, "b2 a1 a1 a1 a1 a1");
        wanders("Ke500", "9-8*(x=0)*(y=0)", 6, 27 + 3, "d4 c3 b2 a1 a1 a1");
        wanders("Ke500", "9-8*(x=0)*(y=0)", 3, 27, "d4 c3 b2");
        wanders("Ka100", "9-9*(x=0)*(y=0)", 3, 0, "a1 a1 a1");
        wanders("Kd400", "9-9*(x+y=8)", 3, 0, "e5 e5 e5");
        wanders("Re100", "9-9*(x+y=8)", 1, 0, "e5");
        Club.says("of as good rows the least");
        wanders("Kc300", "5", 2, 10, "b2 a1");
        wanders("Ka100", "5", 4, 20, "a1 a1 a1 a1");
        wanders("Ke500", "5", 4, 20, "d4 c3 b2 a1");
        wanders("Re500", "5", 3, 15, "e1 a1 a1");
        wanders("pc500", "5", 3, 15, "c4 c3 c2");
        wanders("Ka100", "9-8*(x=2)", 2, 10, "b1 c1");
        wanders("Kb300", "9-8*((x=0)*(y=0)+(x=2)*(y=0))", 2, 10, "a2 a1");
        Club.says("(as rent(); QUARTER goes on by 1 each)");
        wanders("Ka100", "n*5*(x=0)", 3, 0, "a1 b1 b1");
        wanders("Ka100", "(n=1)*9*(y<1)+(n=0)*9*(y>0)", 2, 0, "a1 a2");
        wanders("Rb200;na100;Pe500", "k*3", 2, 0, "c2 c1");
        wanders("Kb200;na100;Pe500", "k*3", 2, 0, "c1 c1");
        Club c = Club.of("Ka199", "5-n");
        c.quarters(2);
        Club.due("from QUARTER 2 on", c.wanders(0, 6), 3 + 2 + 1 + 0 + 0 + 5);
        Club.due("QUARTER", c.count(3), 2);
    }

    private static void wandersOnlyWhereNobodyStands() {
        Club.says("go to a SQUARE to which it CAN GO and on which nobody stands");
        wanders("Kc300;nb200", "9-8*(x=1)*(y=1)", 1, 9, "c2");
        wanders("Kc300;Nb200", "9-8*(x=1)*(y=1)", 1, 9, "c2");
        wanders("Ra100;nc100;Pa200", "9-8*(x=4)", 2, 18, "a1 a1");
        wanders("Ra100;nc100", "9-8*(x=4)", 2, 10, "a2 e2");
        wanders("Ra100;nb100;na200", "9-8*(x=4)", 6, 54, "a1 a1 a1 a1 a1 a1");
        Club.says("others stay, and pay nothing");
        wanders("Kb200;na100;Pa500", "k*3", 3, 0, "c1 c1 c1");
        Club poor = Club.of("Kb250;nc100;nd500", "k*3");
        Club.due("around one that would be OUT", poor.wanders(0, 2), 0);
        poor.rowIs("around one that would be OUT", at("a1"), at("a1"));
        Club wall = Club.of("Ka150;nb100;nb200;na200", "9-8*(x=2)");
        Club.due("by ones that would be OUT", wall.wanders(0, 6), 54);
        Club.says("the least RENTS (whatever it has)");
        wanders("Ka100", "20", 6, 120, "a1 a1 a1 a1 a1 a1");
    }

    private static void wandersOfPawns() {
        Club.says("(a pawn stays a pawn)");
        wanders("Pa400", "9-8*(x=4)", 3, 27, "a4 a4 a4");
        wanders("Pa400", "9-4*(y=4)", 3, 15, "a5 a5 a5");
        wanders("Pa400", "q-y", 2, 2, "a5 a5");
        wanders("Pa300;nb400", "9-8*(x=1)", 2, 18, "a3 a3");
        wanders("pa200", "9-8*(x=4)-4*(y=0)", 3, 15, "a1 a1 a1");
    }

    private static void wandersThatCannotBe() {
        Club.says("-2: it is OUT");
        Club c = Club.of("Ka150;rb100");
        c.quarters(1);
        Club.due("wanders(1, 1)", c.wanders(1, 1), -2);
        Club.due("wanders(1, 6)", c.wanders(1, 6), -2);
        Club.says("NONE: others");
        for (int n : new int[] {-1, 0, 7, 8, LEAST, MOST}) {
            Club.due("wanders(0, " + n + ")", c.wanders(0, n), -1);
            Club.due("wanders(1, " + n + ") of one that is OUT", c.wanders(1, n), -1);
        }
        for (int p : new int[] {-1, 2, 8, LEAST, MOST}) {
            Club.due("wanders(" + p + ", 1)", c.wanders(p, 1), -1);
        }
        c.rowIs("the ROW stays", 1);
    }

    // ---- stays

    private static void stays(String lines, String rule, int n, int want) {
        Club c = Club.of(lines, rule);
        Club.due("stays of " + lines + " by " + rule + " for " + n, c.stays(0, n), want);
        c.rowIs("stays of " + lines + " by " + rule + " for " + n, Integer.bitCount(want));
    }

    private static void stays() {
        Club.promise(27);
        Club.says("SQUARES on which a piece, stood it there from now on, would not be OUT behind n QUARTER DAYS (1 .. 20): them; the "
            + "ROW: how many");
        int inner = Club.bits("b2 c2 d2 b3 c3 d3 b4 c4 d4");
        int middle = Club.bits("c3");
        stays("Ka100", "", 1, 0);
        stays("Ka101", "", 1, ALL & ~inner);
        stays("Ka102", "", 1, ALL & ~middle);
        stays("Ka103", "", 1, ALL);
        stays("Ka119", "", 20, 0);
        stays("Ka120", "", 20, ALL & ~inner);
        stays("Ka139", "", 20, ALL & ~inner);
        stays("Ka140", "", 20, ALL & ~middle);
        stays("Ka159", "", 20, ALL & ~middle);
        stays("Ka160", "", 20, ALL);
        stays("Pc500", "0", 20, ALL);
        stays("Ka199", "5", 19, ALL);
        stays("Ka199", "5", 20, 0);
        Club.says("(RENT as rent(); QUARTER goes on)");
        stays("Ka103", "n", 3, ALL);
        stays("Ka103", "n", 4, 0);
        stays("Ka121", "n", 8, ALL);
        stays("Ka120", "n", 8, 0);
        stays("Ka104", "5*(n=2)*(x>2)", 3, Club.bits("a1 b1 c1 a2 b2 c2 a3 b3 c3 a4 b4 c4 a5 b5 c5"));
        Club late = Club.of("Ka150", "n");
        late.quarters(6);
        late.sheet(2, 1, 6, 0);
        Club.due("from QUARTER 6 on", late.stays(0, 2), ALL);
        Club.due("from QUARTER 6 on", late.stays(0, 3), 0);
        stays("Pc400", "q", 1, 0);
        stays("Pc405", "q", 1, ALL);
        stays("pc409", "q+c*4", 1, ALL);
    }

    private static void staysWhereNobodyElseStands() {
        Club.says("of all on which nobody else stands");
        stays("Ka150;nb100;Ne500", "0", 1, ALL & ~Club.bits("b1 e5"));
        stays("Ka150", "0", 1, ALL);
        Club.says("others staying and paying nothing");
        stays("Ka100;nc300", "k", 5, ALL & ~Club.bits("b2 c2 d2 b3 c3 d3 b4 c4 d4"));
        stays("Ka104;nc300", "k", 5, ALL & ~Club.bits("b2 c2 d2 b3 c3 d3 b4 c4 d4"));
        stays("Ka105;nc300", "k", 5, ALL & ~Club.bits("c3"));
        stays("Ka105;nb100;Nd500", "k*20", 1, ALL & ~Club.bits("a1 b1 c1 a2 b2 c2 c5 d5 e5 c4 d4 e4"));
        Club c = Club.of("Ka150;nb100;re150", "(x=1)*5");
        c.quarters(1);
        Club.due("where one stood that is OUT", c.stays(0, 1), ALL & ~Club.bits("e1"));
    }

    private static void staysThatCannotBe() {
        Club.says("-2: it is OUT");
        Club c = Club.of("Ka150;rb100");
        c.quarters(1);
        Club.due("stays(1, 1)", c.stays(1, 1), -2);
        Club.due("stays(1, 20)", c.stays(1, 20), -2);
        Club.says("NONE: others");
        for (int n : new int[] {-1, 0, 21, 22, LEAST, MOST}) {
            Club.due("stays(0, " + n + ")", c.stays(0, n), -1);
            Club.due("stays(1, " + n + ") of one that is OUT", c.stays(1, n), -1);
        }
        for (int p : new int[] {-1, 2, 8, LEAST, MOST}) {
            Club.due("stays(" + p + ", 1)", c.stays(p, 1), -1);
        }
        c.rowIs("the ROW stays", 1);
    }
}
