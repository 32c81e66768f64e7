/** THE RULE in Terms 1, sentence by sentence, and Promise 5, which reads it. */
public final class SentencesOfRules {
    private static final String BINDERS = "<>=+-*/";

    public static void main(String[] args) {
        Club.terms(1);
        compares();
        addsFromTheLeft();
        multipliesFromTheLeft();
        dividesByNothing();
        cutsToNothing();
        negates();
        numbers();
        brackets();
        places();
        near();
        kindsSidesQuarters();
        asInts();
        putToRent();
        Club.promise(5);
        everySign();
        tooEarly();
        tooMany();
        refusedAndEmpty();
        Club.finish("SentencesOfRules");
    }

    /** RENT by a rule of SQUARE b1 (column 1, row 0), nobody else there. */
    private static long rentBy(String rule) {
        return Club.of("Kb100", rule).rent(0, 1);
    }

    private static void due(String rule, long want) {
        Club.due("RENT by " + rule, rentBy(rule), want);
    }

    private static void fails(String rule, int at) {
        Club c = Club.of("Kb100", "7");
        Club.due("rule() of " + rule, c.rule(rule), -1 - at);
        Club.due("THE TEXT behind it", c.count(11), 0);
        Club.due("RENT by the rule ahead of it", c.rent(0, 1), 7);
    }

    // ---- EXPRESSION

    private static void compares() {
        Club.says("< > = bind least (two; 1 or 0");
        int[][] values = {{3, 4}, {4, 4}, {5, 4}};
        for (int[] v : values) {
            due(v[0] + "<" + v[1], v[0] < v[1] ? 1 : 0);
            due(v[0] + ">" + v[1], v[0] > v[1] ? 1 : 0);
            due(v[0] + "=" + v[1], v[0] == v[1] ? 1 : 0);
        }
        due("(4<3)+7", 7);
        due("(4<4)+7", 7);
        due("(4>5)+7", 7);
        due("(4>4)+7", 7);
        due("(4=5)+7", 7);
        due("-1<0", 1);
        due("0>-1", 1);
        due("-1=0-1", 1);
        Club.says("< > = bind least");
        due("1+1<3", 1);
        due("3>1+1", 1);
        due("2=1+1", 1);
        due("1<0+2", 1);
        due("5>2*2", 1);
        due("3*2=6", 1);
        due("12/2=6", 1);
        due("6=12/2", 1);
        due("4-2>1", 1);
        due("2*(1<2)+3", 5);
        Club.says("< > = (not one behind the other)");
        for (char one : "<>=".toCharArray()) {
            for (char other : "<>=".toCharArray()) {
                fails("1" + one + "2" + other + "3", 3);
                fails("1" + one + "2+3*4" + other + "3", 7);
                fails("(1" + one + "2" + other + "3)", 4);
            }
        }
        fails("1<2<", 3);
        fails("(1<2)<(2<3)<1", 11);
        fails("1<(2<3)=1", 7);
        fails("((1<2)=1>0)", 8);
        due("(1<2)<(1<3)", 0);
        due("(1<2)=(1<3)", 1);
        due("(2<1)<(1<3)", 1);
        due("1<(2<3)+1", 1);
        due("(1<2)+(2<3)+(4>3)", 3);
        due("((1<2)=1)=1", 1);
        due("1=(1=(1=(1=1)))", 1);
    }

    private static void addsFromTheLeft() {
        Club.says("then + - (from the left)");
        due("9-3-2", 4);
        due("9-3+2", 8);
        due("9+3-2", 10);
        due("1-2+3", 2);
        due("20-1-2-3-4", 10);
        due("2*3+4", 10);
        due("2+3*4", 14);
        due("9-8/4", 7);
        due("8/4-1", 1);
        due("9-2*3-1", 2);
    }

    private static void multipliesFromTheLeft() {
        Club.says("then * / (from the left");
        due("8/4*2", 4);
        due("16/4/2", 2);
        due("2*7/2", 7);
        due("7/2*2", 6);
        due("3*5/2*2", 14);
        due("2*(7/2)", 6);
    }

    private static void dividesByNothing() {
        Club.says("by 0: 0");
        due("5/0", 0);
        due("5/0+7", 7);
        due("0/0+3", 3);
        due("7-5/(2-2)", 7);
        due("3*5/0+2", 2);
        due("-5/0+2", 2);
        due("5/-0+2", 2);
        due("5/0*3+4", 4);
        due("9/y+1", 1);
        due("9/x+1", 10);
    }

    private static void cutsToNothing() {
        Club.says("cut to 0");
        due("7/2", 3);
        due("1/2", 0);
        due("6/2", 3);
        due("5/6", 0);
        due("-7/2+9", 6);
        due("7/-2+9", 6);
        due("-7/-2", 3);
        due("-1/2+4", 4);
        due("(0-7)/2+9", 6);
        due("(0-8)/2+9", 5);
    }

    private static void negates() {
        Club.says("then - ahead of a thing (any many)");
        due("-3+5", 2);
        due("--3", 3);
        due("---3+9", 6);
        due("2--3", 5);
        due("2---3", 0);
        due("2---3+9", 8);
        due("2+-3+4", 3);
        due("2*-3+9", 3);
        due("-2*3+9", 3);
        due("-2*-3", 6);
        due("9/-3+5", 2);
        due("-(2+3)+9", 4);
        due("-(-(4))", 4);
        due("9-x", 8);
        due("-x+3", 2);
        due("--x", 1);
        due("1>-1", 1);
        due(Club.times("-", 38) + "17", 17);
        due("20" + Club.times("-", 37) + "3", 17);
        due(Club.times("-", 39) + "7", 0);
        fails("+1", 0);
        fails("*1", 0);
        fails("2+*1", 2);
        fails("2-+1", 2);
        fails("-+1", 1);
        fails("<1", 0);
        fails("1<=2", 2);
    }

    private static void numbers() {
        Club.says("a NUMBER of 1 to 3 digits");
        due("0", 0);
        due("7", 7);
        due("12", 12);
        due("07", 7);
        due("007", 7);
        due("000", 0);
        due("010+001", 11);
        due("999-989", 10);
        due("100/9", 11);
        due("999=999", 1);
        due("123-4*30", 3);
        fails("1000", 3);
        fails("0000", 3);
        fails("x+1234", 5);
        fails("123456", 3);
        fails("(1234)", 4);
        fails("111+2222", 7);
        fails("1 2", 1);
        Club.says("things: a NUMBER, an EXPRESSION in ( ), x ..: none behind another");
        fails("2x", 1);
        fails("x2", 1);
        fails("xy", 1);
        fails("123x", 3);
        fails("(1)2", 3);
        fails("2(1)", 1);
        fails("x(1)", 1);
        fails("(1)x", 3);
        fails("(1)(2)", 3);
    }

    private static void brackets() {
        Club.says("an EXPRESSION in ( ) (at most 4 in one another)");
        due("(7)", 7);
        due("((((7))))", 7);
        fails("(((((7)))))", 4);
        fails("(((((", 4);
        fails("1+(1+(1+(1+(1+(1)))))", 14);
        due("1+(1+(1+(1+(1+1))))", 6);
        fails("-(-(-(-(-(1)))))", 9);
        due("1+(1+(1+(1+(1))))", 5);
        due("(1)+(2)+(3)+(4)+(5)", 15);
        due("((((1))))+((((2))))", 3);
        due("((((1)+(2))))", 3);
        due("(((1)+((2))))", 3);
        fails("(((1)+(((2)))))", 8);
        due("(1+2)*3", 9);
        due("20-(3-4)", 20);
        due("2-(3-4)", 3);
        due("16/(4/2)", 8);
        due("2*(3+4)-5", 9);
        Club.says("( ), each with its other");
        fails(")", 0);
        fails("x)", 1);
        fails("(x))", 3);
        fails("()", 1);
        fails("(x+)", 3);
        fails("(-)", 2);
        fails("(x", 2);
        fails("((x)", 4);
        fails("(", 1);
    }

    // ---- things

    private static void places() {
        Club.says("x its column");
        long[] d = {2, 2, 2, 2, 2, 2, 1, 1, 1, 2, 2, 1, 0, 1, 2, 2, 1, 1, 1, 2, 2, 2, 2, 2, 2};
        Club x = Club.of("Kb100", "x");
        Club y = Club.of("Kb100", "y");
        Club far = Club.of("Kb100", "d");
        Club none = Club.of("Kb100");
        for (int square = 0; square < 25; square++) {
            Club.says("x its column");
            Club.due("x of " + Club.nameOf(square), x.rent(0, square), square % 5);
            Club.says("y its row");
            Club.due("y of " + Club.nameOf(square), y.rent(0, square), square / 5);
            Club.says("d how far it is from the middle one (SQUARE 12: the greater of how far by column and by row)");
            Club.due("d of " + Club.nameOf(square), far.rent(0, square), d[square]);
            Club.says("at first none: 3-d");
            Club.due("RENT of " + Club.nameOf(square), none.rent(0, square), 3 - d[square]);
        }
    }

    private static void near() {
        Club.says("k how many other PIECES stand on the up to eight SQUARES around it");
        String[] names = {"b2", "c2", "d2", "b3", "d3", "b4", "c4"};
        StringBuilder lines = new StringBuilder("Kc300");
        for (int i = 0; i < 7; i++) {
            lines.append(i % 2 == 0 ? ";n" : ";P").append(names[i]).append("00");
            Club c = Club.of(lines.toString(), "k");
            Club.due("k of so many around", c.rent(0, 12), i + 1);
            Club.due("RENT now", c.piece(0, 4), i + 1);
        }
        Club.due("the eighth SQUARE around", Club.of("Kc300;nd400", "k").rent(0, 12), 1);
        Club.says("k: other PIECES, none that is not around");
        Club alone = Club.of("Kc300", "k");
        for (int square = 0; square < 25; square++) {
            Club.due("k of itself", alone.rent(0, square), 0);
        }
        for (int square = 0; square < 25; square++) {
            if (square != 12) {
                Club two = Club.of("Kc300;n" + Club.nameOf(square) + "00", "k");
                int right = Math.abs(square % 5 - 2);
                int up = Math.abs(square / 5 - 2);
                Club.due("k, one on " + Club.nameOf(square), two.rent(0, 12), right < 2 && up < 2 ? 1 : 0);
                Club.due("k where the other one stands", two.rent(0, square), 0);
            }
        }
        Club.says("the up to eight SQUARES around it (not past an edge)");
        Club left = Club.of("Kc300;ne100;ne200;ne300;ne400;ne500", "k");
        Club right = Club.of("Kc300;na100;na200;na300;na400;na500", "k");
        for (int row = 0; row < 5; row++) {
            Club.due("k at the left, all at the right", left.rent(0, 5 * row), 0);
            Club.due("k at the right, all at the left", right.rent(0, 5 * row + 4), 0);
        }
        Club.due("k of a corner", Club.of("Ka100;nb100;na200;nb200", "k").rent(0, 0), 3);
        Club.due("k of the last corner", Club.of("Ke500;nd500;ne400;nd400", "k").rent(0, 24), 3);
        Club.due("k of an edge", Club.of("Kc100;nb100;nd100;nb200;nc200;nd200", "k").rent(0, 2), 5);
        Club.due("k of the other edge", Club.of("Kc500;nb500;nd500;nb400;nc400;nd400", "k").rent(0, 22), 5);
    }

    private static void kindsSidesQuarters() {
        for (int i = 0; i < 12; i++) {
            char letter = "KQRBNPkqrbnp".charAt(i);
            Club.says("q KIND");
            Club.due("q of " + letter, Club.of(letter + "c300", "q").rent(0, 0), i % 6);
            Club.says("c SIDE");
            Club.due("c of " + letter, Club.of(letter + "c300", "c").rent(0, 0), i / 6);
        }
        Club.says("q KIND (a pawn that has become a queen)");
        Club queen = Club.of("Pa450", "q");
        Club.due("q ahead of it", queen.piece(0, 4), 5);
        queen.moves(0, Club.at("a5"));
        Club.due("q behind it", queen.piece(0, 4), 1);
        Club.says("n QUARTER by 7 (rest)");
        Club c = Club.of("Ka199", "n");
        for (int quarter = 0; quarter < 16; quarter++) {
            Club.due("n in QUARTER " + quarter, c.rent(0, 3), quarter % 7);
            c.sheet(2, 1, 99, 0);
            c.quarters(1);
        }
        c.rule("0");
        c.quarters(60);
        c.rule("n");
        Club.due("n in QUARTER 76", c.rent(0, 3), 76 % 7);
    }

    private static void asInts() {
        Club.says("As ints");
        due("999*999*999*3", 0);
        due("999*999*999*5", 20);
        due("-999*999*999*3", 20);
        due("999*999*999*2", 20);
        due("999*999*999+999*999*999+999*999*999", 0);
        due("0-999*999*999*2-999*999*999", 20);
        due("128*256*256*256<0", 1);
        due("128*256*256*256/2<0", 1);
        due("-(128*256*256*256)<0", 1);
        due("256*256*256*256", 0);
        due("256*256*256*256=0", 1);
        due("256*256*256*256+5", 5);
        due("(128*256*256*256/-1<0)*9", 9);
        due("-(128*256*256*256)-1>0", 1);
    }

    private static void putToRent() {
        Club.says("put to 0 .. 20: RENT");
        String[] rules = {"-1", "0", "1", "19", "20", "21", "999", "0-999", "-999*999", "999*999"};
        int[] rents = {0, 0, 1, 19, 20, 20, 20, 0, 0, 20};
        for (int i = 0; i < rules.length; i++) {
            due(rules[i], rents[i]);
            Club c = Club.of("Kb150", rules[i]);
            Club.due("RENT now by " + rules[i], c.piece(0, 4), rents[i]);
            Club.due("owed by " + rules[i], c.owes(0), rents[i]);
            c.quarters(1);
            c.rowIs("paid by " + rules[i], rents[i]);
            Club.due("PURSE behind it", c.piece(0, 3), 50 - rents[i]);
        }
    }

    // ---- Promise 5

    private static boolean isIn(String signs, char sign) {
        return signs.indexOf(sign) >= 0;
    }

    /** Every sign where a thing has to stand, and where none may. */
    private static void everySign() {
        Club.says("-1 - p: the sign at p can't stand there");
        String digits = "0123456789";
        for (char sign = 0; sign < 256; sign++) {
            Club c = new Club();
            boolean thing = isIn("xydkqcn" + digits, sign);
            boolean ahead = isIn("-(", sign);
            String told = "sign " + (int) sign;
            Club.due("the first, " + told, c.rule("" + sign), thing ? 0 : ahead ? -2 : -1);
            Club.due("behind (, " + told, c.rule("(" + sign), thing || ahead ? -3 : -2);
            Club.due("behind -, " + told, c.rule("-" + sign), thing ? 0 : ahead ? -3 : -2);
            Club.due("behind +, " + told, c.rule("x+" + sign), thing ? 0 : ahead ? -4 : -3);
            Club.due("behind <, " + told, c.rule("x<" + sign), thing ? 0 : ahead ? -4 : -3);
            boolean binds = isIn(BINDERS, sign);
            Club.due("behind x, " + told, c.rule("x" + sign), binds ? -3 : -2);
            Club.due("behind a bracket, " + told, c.rule("(x)" + sign), binds ? -5 : -4);
            Club.due("in a bracket, " + told, c.rule("(x" + sign), binds || sign == ')' ? sign == ')' ? 0 : -4 : -3);
            Club.due("behind a digit, " + told, c.rule("1" + sign), isIn(digits, sign) ? 0 : binds ? -3 : -2);
            Club.due("behind three digits, " + told, c.rule("123" + sign), binds ? -5 : -4);
        }
    }

    private static void tooEarly() {
        Club.says("its end, if it ends too early");
        fails("-", 1);
        fails("--", 2);
        fails("x+", 2);
        fails("x*", 2);
        fails("x<", 2);
        fails("x-", 2);
        fails("(x", 2);
        fails("(x+y", 4);
        fails("((x)", 4);
        fails("x+(", 3);
        fails(Club.times("1+", 19) + "1+", 40);
        fails(Club.times("1+", 19) + "(1", 40);
        Club.says("its end (what end() has cut off is no more there)");
        String[] whole = {"x+1", "(x)", "-x", "1<2", "(1+(2))"};
        for (String text : whole) {
            Club c = Club.of("Kb100", "7");
            c.put(text);
            c.end(text.length() - 1);
            Club.due("rule() of " + text + " but for its last sign", c.rule(), -text.length());
            c.put(text);
            c.end(text.length() - 1);
            Club.due("law() of " + text + " but for its last sign", c.law(), -9999 - text.length());
        }
        Club.says("the first sign that can't stand");
        fails("xx+", 1);
        fails("?+", 0);
        fails("x+?y?", 2);
    }

    private static void tooMany() {
        Club.says("40, if it has more and the first 40 could go on or end");
        String forty = Club.times("1+", 19) + "11";
        due(forty, 20);
        due("0*" + forty.substring(2), 20);
        due(Club.times("0+", 19) + "17", 17);
        due(Club.times("0+", 18) + "(9)", 9);
        due(Club.times("0+", 19) + "7", 7);
        fails(forty + "1", 40);
        fails(forty + "+", 40);
        fails(forty + "?", 40);
        fails(forty + "+1", 40);
        fails(Club.times("0+", 20) + "1", 40);
        fails(Club.times("0+", 18) + "((11)", 40);
        fails(Club.times("0+", 19) + "(11)", 40);
        fails(Club.times("-", 40) + "1", 40);
        fails(Club.times("1+", 40), 40);
        Club.says("40, if the first 40 could go on or end (else the sign that can't stand)");
        fails(Club.times("0+", 19) + "1?1", 39);
        fails(Club.times("0+", 19) + "1)1", 39);
        fails("?" + Club.times("0+", 25), 0);
        fails(Club.times("0+", 18) + "1234+", 39);
        fails(Club.times("0+", 17) + "(((((1", 38);
    }

    private static void refusedAndEmpty() {
        Club.says("THE TEXT is THE RULE (an empty one: none): 0");
        Club c = Club.of("Kb150;kc300", "7");
        c.odds(0, 1, 3);
        Club.due("a rule", c.rule("2*x+c"), 0);
        Club.due("RENT for white", c.rent(0, 3), 6);
        Club.due("RENT for black", c.rent(1, 3), 7);
        Club.due("THE TEXT", c.count(11), 0);
        Club.due("a fault", c.rule("9?"), -2);
        Club.due("THE TEXT", c.count(11), 0);
        Club.due("RENT as it was", c.rent(1, 3), 7);
        Club.due("an empty one", c.rule(), 0);
        Club.due("RENT of the middle", c.rent(0, 12), 3);
        Club.due("RENT of an edge", c.rent(1, 3), 1);
        c.rowIs("the ROW stays", 7, 10);
        Club.says("THE TEXT is THE RULE (one behind another, and behind such as can't be)");
        String[] rules = {"-5+9", "7", "((((1", "((((5))))", "1<2<", "1<2", "1234", "4", "-", "8", "x+", "(1+2)*3", ")",
            "2=1+1", "--", "6"};
        int[] rents = {4, 7, 7, 5, 5, 1, 1, 4, 4, 8, 8, 9, 9, 1, 1, 6};
        Club many = Club.of("Ka150");
        for (int i = 0; i < rules.length; i++) {
            many.rule(rules[i]);
            Club.due("RENT behind " + rules[i], many.rent(0, 0), rents[i]);
        }
        many.law("-9");
        Club.due("RENT behind law()", many.rent(0, 0), 6);
        Club.says("THE TEXT is THE RULE (nothing else changes)");
        c.passes();
        c.rule("5");
        Club.due("what can be undone", c.count(9), 1);
        Club.due("QUARTER", c.count(3), 0);
        c.undo();
        Club.due("THE RULE behind undo()", c.rent(0, 0), 5);
    }
}
