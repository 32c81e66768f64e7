import java.util.function.ToLongFunction;

/** Terms 2, sentence by sentence: what refused calls, questions and calls that act leave as it is; which answer is first. */
public final class SentencesOfRefusals {
    private static final long THROWN = Club.THROWN;

    public static void main(String[] args) {
        Club.terms(2);
        theStateOfAll();
        refusedNone();
        refusedBeyondBounds();
        refusedByTheState();
        thereIsNone();
        thrown();
        refusedWhenFull();
        refusedTexts();
        textsThatAreRead();
        textsThatAreNotRead();
        questions();
        questionsWithoutRow();
        noneComesFirst();
        emptyRows();
        callsThatTellNoRow();
        actsAndUndo();
        rowsAndFractions();
        Club.finish("SentencesOfRefusals");
    }

    /**
     * White's TURN; a king, a black rook that is OUT, a pawn that has become a queen, a black knight; two heard, two seen, two
     * kept, four that can be undone; a rule in THE TEXT, a ROW of two numbers.
     */
    private static Club rich() {
        Club c = richWithoutText();
        c.put("n+6");
        return c;
    }

    private static Club richWithoutText() {
        Club c = Club.of("Ka190;rd501;Pc430;nb315", "2+k");
        c.heard(1, 0);
        c.heard(2, 3);
        c.saw(2, 4);
        c.saw(1, 5);
        c.keep(0);
        c.moves(2, Club.at("c5"));
        c.quarters(1);
        c.passes();
        c.keep(1);
        c.undo();
        c.wages(1, 2);
        c.moves(3, Club.at("c1"));
        c.odds(1, 1, 3);
        return c;
    }

    private static void theStateOfAll() {
        Club.says("the state in which the calls of this test are made");
        Club.due("it", rich().state(), "TURN 0 QUARTER 1 MOVES 2 0/0/0/88 2/1/25/0 1/0/22/27 4/1/2/15");
        Club c = rich();
        Club.due("what was heard, seen", 10 * c.count(7) + c.count(8), 22);
        Club.due("what can be undone", c.count(9), 4);
        Club.due("signs of THE TEXT", c.count(11), 3);
        c.rowIs("the ROW", 7, 10);
    }

    // ---- refused calls

    private static void refused(String what, ToLongFunction<Club> call, long want) {
        Club.changesNothing(what, SentencesOfRefusals::rich, call, want);
    }

    private static void refused(String what, ToLongFunction<Club> call) {
        refused(what, call, -1);
    }

    private static void refusedNone() {
        Club.says("Refused calls answer NONE, or false, and change nothing: none such");
        int[] none = {-1, 4, 8, Club.LEAST, Club.MOST};
        for (int p : none) {
            refused("moves(" + p + ", 1)", c -> c.moves(p, 1));
            refused("gives(" + p + ", 0, 1)", c -> c.gives(p, 0, 1));
            refused("gives(0, " + p + ", 1)", c -> c.gives(0, p, 1));
            refused("goes(" + p + ")", c -> c.goes(p));
            refused("threats(" + p + ")", c -> c.threats(p));
            refused("hops(" + p + ", 0)", c -> c.hops(p, 0));
            refused("ways(" + p + ", 0, 1)", c -> c.ways(p, 0, 1));
            refused("later(" + p + ", 1)", c -> c.later(p, 1));
            refused("when(" + p + ")", c -> c.when(p));
            refused("needs(" + p + ", 1)", c -> c.needs(p, 1));
            refused("cheapest(" + p + ")", c -> c.cheapest(p));
            refused("wanders(" + p + ", 1)", c -> c.wanders(p, 1));
            refused("stays(" + p + ", 1)", c -> c.stays(p, 1));
        }
        int[] noSquare = {-1, 25, 26, Club.LEAST, Club.MOST};
        for (int s : noSquare) {
            refused("moves(0, " + s + ")", c -> c.moves(0, s));
            refused("hops(0, " + s + ")", c -> c.hops(0, s));
            refused("ways(0, " + s + ", 1)", c -> c.ways(0, s, 1));
        }
        refused("gives(0, 0, 1)", c -> c.gives(0, 0, 1));
        refused("gives(2, 2, 27)", c -> c.gives(2, 2, 27));
    }

    private interface Numbered {
        long answer(Club c, int n);
    }

    /** The first and the last that are let in, and those beside them that are not. */
    private static void beyond(String what, int first, int last, Numbered call) {
        for (int n : new int[] {first - 1, last + 1, Club.LEAST, Club.MOST}) {
            refused(what + " of " + n, c -> call.answer(c, n));
        }
        for (int n : new int[] {first, last}) {
            Club.due(what + " of " + n + " is refused", call.answer(rich(), n) == -1, false);
        }
    }

    private static void refusedBeyondBounds() {
        Club.says("Refused calls answer NONE, and change nothing: numbers out of bounds");
        beyond("quarters", 0, 60, (c, n) -> c.quarters(n));
        beyond("gives", 1, 99, (c, n) -> c.gives(0, 2, n));
        beyond("wages by n", 1, 9, (c, n) -> c.wages(0, n));
        beyond("wages by side", 0, 1, (c, n) -> c.wages(n, 1));
        beyond("ways", 0, 4, (c, n) -> c.ways(0, 0, n));
        beyond("owes", 0, 1, (c, n) -> c.owes(n));
        beyond("later", 0, 60, (c, n) -> c.later(0, n));
        beyond("needs", 1, 20, (c, n) -> c.needs(0, n));
        beyond("wanders", 1, 6, (c, n) -> c.wanders(0, n));
        beyond("stays", 1, 20, (c, n) -> c.stays(0, n));
        beyond("looks", 0, 2, (c, n) -> c.looks(n));
        beyond("heard, KIND", 0, 5, (c, n) -> c.heard(0, n));
        beyond("heard, SIDE", 0, 1, (c, n) -> c.heard(1, n));
        beyond("heard, tens", 0, 9, (c, n) -> c.heard(2, n));
        beyond("heard, d", 0, 2, (c, n) -> c.heard(3, n));
        beyond("heard, SQUARES", 0, 9, (c, n) -> c.heard(4, n));
        beyond("heard, what", 0, 4, (c, n) -> c.heard(n, 0));
        beyond("saw by d", 0, 2, (c, n) -> c.saw(n, 0));
        beyond("saw by v", 0, 20, (c, n) -> c.saw(0, n));
        beyond("odds by side", 0, 1, (c, n) -> c.odds(n, 1, 1));
        beyond("odds by k", 0, 8, (c, n) -> c.odds(0, n, 1));
        beyond("odds by p", 0, 10, (c, n) -> c.odds(0, 1, n));
        beyond("knights by x", 0, 9, (c, n) -> c.knights(n, 1));
        beyond("knights by y", 0, 9, (c, n) -> c.knights(1, n));
        beyond("rests", 0, 20, (c, n) -> c.rests(n));
        beyond("years", 1, 60, (c, n) -> c.years(7, n));
        beyond("keep", 0, 1, (c, n) -> c.keep(n) ? 1 : -1);
        beyond("again", 0, 1, (c, n) -> c.again(n) ? 1 : -1);
        beyond("count", 0, 11, (c, n) -> c.count(n));
        beyond("sheet by kind", 0, 3, (c, n) -> c.sheet(n, 2, 5, 5));
        beyond("end", 0, 3, (c, n) -> c.end(n) ? 1 : -1);
        for (int kind = 0; kind <= 3; kind++) {
            int one = kind;
            Club.due("sheet of 8 entries is refused", rich().sheet(one, 8, 5, 5) == -1, false);
            refused("sheet(" + one + ", 9, 5, 5)", c -> c.sheet(one, 9, 5, 5));
            refused("sheet(" + one + ", most, 5, 5)", c -> c.sheet(one, Club.MOST, 5, 5));
        }
    }

    private static void refusedByTheState() {
        Club.says("Refused calls change nothing; the ROW stays with each answer that tells of a refusal");
        refused("moves of black's", c -> c.moves(3, Club.at("b3")), -2);
        refused("moves of one that is OUT", c -> c.moves(1, Club.at("a2")), -2);
        refused("moves to where it can't go", c -> c.moves(0, Club.at("a3")), -3);
        refused("moves to its own SQUARE", c -> c.moves(0, 0), -3);
        refused("moves to one of its SIDE", c -> c.moves(2, 22), -3);
        refused("gives of one that is OUT", c -> c.gives(1, 0, 1), -2);
        refused("gives to one that is OUT", c -> c.gives(0, 1, 1), -2);
        refused("gives of more than it has", c -> c.gives(2, 3, 28), -3);
        refused("gives above 99", c -> c.gives(3, 0, 12), -4);
        refused("sheet of n below 0", c -> c.sheet(0, -1, 5, 5), -2);
        refused("sheet of n below 0", c -> c.sheet(1, -1, 5, 5), -2);
        refused("sheet of n below 0", c -> c.sheet(2, Club.LEAST, 5, 5), -2);
        refused("goes of one that is OUT", c -> c.goes(1), -2);
        refused("threats of one that is OUT", c -> c.threats(1), -2);
        refused("hops of one that is OUT", c -> c.hops(1, 3), -2);
        refused("ways of one that is OUT", c -> c.ways(1, 0, 0), -2);
        refused("later of one that is OUT", c -> c.later(1, 0), -2);
        refused("when of one that is OUT", c -> c.when(1), -3);
        refused("needs of one that is OUT", c -> c.needs(1, 1), -3);
        refused("cheapest of one that is OUT", c -> c.cheapest(1), -2);
        refused("wanders of one that is OUT", c -> c.wanders(1, 1), -2);
        refused("stays of one that is OUT", c -> c.stays(1, 1), -2);
    }

    private static Club free() {
        Club c = Club.of("pa150;pc150", "0");
        c.saw(0, 20);
        c.heard(0, 0);
        c.odds(1, 1, 3);
        return c;
    }

    private static void thereIsNone() {
        Club.says("the ROW stays with each answer that tells that there is none");
        refused("hops to one of its SIDE", c -> c.hops(0, 22), -2);
        Club.changesNothing("undo() of nothing", SentencesOfRefusals::free, Club::undo, -1);
        Club.changesNothing("when on none", SentencesOfRefusals::free, c -> c.when(0), -2);
        Club.changesNothing("hops by none", SentencesOfRefusals::free, c -> c.hops(0, 9), -2);
        Club.changesNothing("best of none", SentencesOfRefusals::free, Club::best, -2);
        Club.changesNothing("asks, none fits", SentencesOfRefusals::free, Club::asks, -2);
        Club.changesNothing("sees, none fits", SentencesOfRefusals::free, Club::sees, -2);
        Club.changesNothing("again of nothing kept", SentencesOfRefusals::free, c -> c.again(0) ? 1 : 0, 0);
        Club.changesNothing("needs by none", () -> {
            Club c = Club.of("pa150;pc150", "20");
            c.odds(1, 1, 3);
            return c;
        }, c -> c.needs(0, 20), -2);
    }

    private static void thrown() {
        Club.says("NoSuchElementException (nothing changes)");
        refused("piece(4, 0)", c -> c.piece(4, 0), THROWN);
        refused("piece(-1, 0)", c -> c.piece(-1, 0), THROWN);
        refused("piece(0, 5)", c -> c.piece(0, 5), THROWN);
        refused("piece(0, -1)", c -> c.piece(0, -1), THROWN);
        refused("square(25)", c -> c.square(25), THROWN);
        refused("square(-1)", c -> c.square(-1), THROWN);
        refused("rent(1, 0)", c -> c.rent(1, 0), THROWN);
        refused("rent(4, 0)", c -> c.rent(4, 0), THROWN);
        refused("rent(-1, 0)", c -> c.rent(-1, 0), THROWN);
        refused("rent(0, 25)", c -> c.rent(0, 25), THROWN);
        refused("rent(0, -1)", c -> c.rent(0, -1), THROWN);
        refused("row(2)", c -> c.row(2), THROWN);
        refused("row(-1)", c -> c.row(-1), THROWN);
    }

    private static Club full() {
        Club c = Club.of("Ka150;kc150", "1");
        for (int i = 0; i < 12; i++) {
            c.heard(i % 5, i % 2);
        }
        for (int i = 0; i < 10; i++) {
            c.saw(2, 6);
        }
        c.put("5+6" + " ".repeat(77));
        c.odds(1, 1, 3);
        return c;
    }

    private static void refusedWhenFull() {
        Club.says("Refused calls answer NONE, and change nothing: no room");
        Club.changesNothing("heard of 12", SentencesOfRefusals::full, c -> c.heard(0, 0), -1);
        Club.changesNothing("saw of 10", SentencesOfRefusals::full, c -> c.saw(0, 0), -1);
        Club.changesNothing("sign of 80", SentencesOfRefusals::full, c -> c.sign(0x30303030), -1);
        Club c = full();
        c.sign(0x3F3F3F3F);
        c.end(3);
        Club.due("the first signs behind a refused sign()", c.rule(), 0);
        Club.due("RENT by them", c.rent(0, 0), 11);
    }

    // ---- THE TEXT

    private static void fault(String what, String text, ToLongFunction<Club> call, long want) {
        Club.changesNothing(what + " of " + text, SentencesOfRefusals::richWithoutText, c -> {
            c.put(text);
            return call.applyAsLong(c);
        }, want);
    }

    private static void refusedTexts() {
        Club.says("Refused calls change nothing but THE TEXT, which a call that can read it empties");
        fault("pieces()", "?", Club::pieces, -1);
        fault("pieces()", "Ka100", Club::pieces, -2);
        fault("pieces()", "Kb100;Kc100", Club::pieces, -8);
        fault("pieces()", "Kb100;", Club::pieces, -7);
        fault("pieces()", "Kb100;Kb200;Kb300;Kb400;Kb500", Club::pieces, -25);
        fault("rule()", "?", Club::rule, -1);
        fault("rule()", "9+", Club::rule, -3);
        fault("rule()", "1".repeat(41), Club::rule, -4);
        fault("rule()", "-".repeat(41), Club::rule, -41);
        fault("law()", "?", Club::law, -10000);
        fault("law()", "9+", Club::law, -10002);
        fault("game()", "?", Club::game, -1);
        fault("game()", "//n", Club::game, -4);
        fault("game()", "/".repeat(61), Club::game, -61);
    }

    private static void read(String what, String text, ToLongFunction<Club> call) {
        Club c = Club.of("Ka150;kc350");
        c.put(text);
        call.applyAsLong(c);
        Club.due("signs behind " + what + " of \"" + text + "\"", c.count(11), 0);
        Club.due("a sign() behind it", c.sign(0x31303030), 4);
    }

    private static void textsThatAreRead() {
        Club.says("THE TEXT, which a call that can read it empties, whatever it answers");
        String[] texts = {"", "Kb200", "Kb2", "Ka100", "7", "7+", "n1", "//", "m0a3n1", "m9a1", "?", "\u0000", "?".repeat(80)};
        for (String text : texts) {
            read("pieces()", text, Club::pieces);
            read("rule()", text, Club::rule);
            read("law()", text, Club::law);
            read("game()", text, Club::game);
        }
    }

    private static void unread(String what, ToLongFunction<Club> call) {
        Club c = rich();
        call.applyAsLong(c);
        Club.due("signs of THE TEXT behind " + what, c.count(11), 3);
        Club.due("rule() of it", c.rule(), 0);
        Club.due("RENT by it", c.rent(0, 0), 6 + c.count(3) % 7);
    }

    private static void textsThatAreNotRead() {
        Club.says("THE TEXT, which a call that can read it empties (other calls leave it)");
        unread("moves", c -> c.moves(0, 1));
        unread("quarters", c -> c.quarters(1));
        unread("passes", Club::passes);
        unread("gives", c -> c.gives(0, 2, 5));
        unread("wages", c -> c.wages(0, 5));
        unread("sheet", c -> c.sheet(2, 3, 50, 0));
        unread("undo", Club::undo);
        unread("heard", c -> c.heard(0, 0));
        unread("forget", Club::forget);
        unread("saw", c -> c.saw(0, 0));
        unread("denies", Club::denies);
        unread("keep", c -> c.keep(0) ? 1 : 0);
        unread("again", c -> c.again(0) ? 1 : 0);
    }

    // ---- questions

    private static void asked(String what, ToLongFunction<Club> call) {
        Club.changesTheRowAlone(what, SentencesOfRefusals::rich, call);
    }

    private static void questions() {
        Club.says("Questions change nothing");
        for (int p = 0; p < 4; p += p == 0 ? 2 : 1) {
            int piece = p;
            asked("goes(" + p + ")", c -> c.goes(piece));
            asked("threats(" + p + ")", c -> c.threats(piece));
            asked("hops(" + p + ", 13)", c -> c.hops(piece, 13));
            asked("later(" + p + ", 60)", c -> c.later(piece, 60));
            asked("when(" + p + ")", c -> c.when(piece));
            asked("cheapest(" + p + ")", c -> c.cheapest(piece));
            asked("wanders(" + p + ", 6)", c -> c.wanders(piece, 6));
            asked("stays(" + p + ", 20)", c -> c.stays(piece, 20));
        }
        for (int s = 0; s < 2; s++) {
            int side = s;
            asked("owes(" + s + ")", c -> c.owes(side));
            asked("odds(" + s + ", 1, 4)", c -> c.odds(side, 1, 4));
        }
        asked("best()", Club::best);
        asked("looks(0)", c -> c.looks(0));
        asked("looks(1)", c -> c.looks(1));
        asked("looks(2)", c -> c.looks(2));
        asked("choices()", Club::choices);
        asked("fits()", Club::fits);
        asked("asks()", Club::asks);
        asked("laws()", Club::laws);
        asked("sees()", Club::sees);
        asked("knights(9, 9)", c -> c.knights(9, 9));
        asked("knights(7, 8)", c -> c.knights(7, 8));
        asked("rests(20)", c -> c.rests(20));
        asked("years(5, 60)", c -> c.years(5, 60));
        for (String text : new String[] {"", "0", "20", "9-k"}) {
            Club.changesTheRowAlone("law() of " + text, SentencesOfRefusals::richWithoutText, c -> c.law(text));
        }
    }

    private static void questionsWithoutRow() {
        Club.says("Questions change nothing; the ROW stays with calls that do not tell of it");
        refused("piece(2, 0)", c -> c.piece(2, 0), 1);
        refused("piece(1, 4)", c -> c.piece(1, 4), 0);
        refused("square(22)", c -> c.square(22), 2);
        refused("rent(2, 1)", c -> c.rent(2, 1), 4);
        refused("ways(0, 0, 2)", c -> c.ways(0, 0, 2), 3);
        refused("needs(0, 20)", c -> c.needs(0, 20), 40);
        refused("count(4)", c -> c.count(4), 2);
        refused("row(1)", c -> c.row(1), 10);
    }

    // ---- which answer is first, the ROW

    private static void noneComesFirst() {
        Club.says("NONE comes ahead of other answers below 0, if not said otherwise");
        refused("moves of one that is OUT to none such", c -> c.moves(1, 25));
        refused("moves of black's to none such", c -> c.moves(3, -1));
        refused("gives 0 of one that is OUT", c -> c.gives(1, 0, 0));
        refused("gives 100 to one that is OUT", c -> c.gives(0, 1, 100));
        refused("gives of one that is OUT to like ones", c -> c.gives(1, 1, 5));
        refused("gives of one that is OUT to none such", c -> c.gives(1, 4, 5));
        refused("gives 100, above 99", c -> c.gives(3, 0, 100));
        refused("hops of one that is OUT to none such", c -> c.hops(1, 25));
        refused("ways of one that is OUT to none such", c -> c.ways(1, 25, 1));
        refused("ways of one that is OUT, n 5", c -> c.ways(1, 0, 5));
        refused("later of one that is OUT, n 61", c -> c.later(1, 61));
        refused("later of one that is OUT, n -1", c -> c.later(1, -1));
        refused("needs of one that is OUT, n 21", c -> c.needs(1, 21));
        refused("needs of one that is OUT, n 0", c -> c.needs(1, 0));
        refused("wanders of one that is OUT, n 7", c -> c.wanders(1, 7));
        refused("wanders of one that is OUT, n 0", c -> c.wanders(1, 0));
        refused("stays of one that is OUT, n 21", c -> c.stays(1, 21));
        refused("stays of one that is OUT, n 0", c -> c.stays(1, 0));
        refused("sheet of another kind, n below 0", c -> c.sheet(4, -1, 5, 5));
        refused("sheet of another kind, n below 0", c -> c.sheet(-1, -1, 5, 5));
        Club.says("the answers below 0 in the order in which they are told");
        refused("moves of black's to where it can't go", c -> c.moves(3, 24), -2);
        refused("gives of one that is OUT and has not so much", c -> c.gives(1, 0, 99), -2);
        refused("gives to one that is OUT, not so much", c -> c.gives(2, 1, 99), -2);
        refused("gives of not so much, above 99", c -> c.gives(3, 0, 16), -3);
    }

    private static void emptied(String what, ToLongFunction<Club> call, long want) {
        Club c = rich();
        Club.due(what, call.applyAsLong(c), want);
        c.rowIs(what, new long[0]);
    }

    private static void emptyRows() {
        Club.says("ROW: numbers told last by a call that says so (nothing: none)");
        emptied("hops to its own SQUARE", c -> c.hops(0, 0), 0);
        emptied("looks(0)", c -> c.looks(0), 1000 + 86 + 25 - 13);
        emptied("knights(0, 0)", c -> c.knights(0, 0), 0);
        emptied("rests(12)", c -> c.rests(12), 0);
        emptied("laws() of none", c -> {
            c.saw(2, 20);
            return c.laws();
        }, 0);
    }

    private static void keepsTheRow(String what, ToLongFunction<Club> call) {
        Club c = rich();
        call.applyAsLong(c);
        c.rowIs("behind " + what, 7, 10);
    }

    private static void callsThatTellNoRow() {
        Club.says("the ROW stays with calls that do not tell of it");
        keepsTheRow("sign", c -> c.sign(0));
        keepsTheRow("end", c -> c.end(0) ? 1 : 0);
        keepsTheRow("an empty pieces", c -> c.pieces(""));
        keepsTheRow("pieces", c -> c.pieces("Ka500"));
        keepsTheRow("an empty rule", c -> c.rule(""));
        keepsTheRow("rule", c -> c.rule("7"));
        keepsTheRow("sheet", c -> c.sheet(2, 3, 50, 0));
        keepsTheRow("a missing sheet", c -> c.sheet(3, 3, 50, 0));
        keepsTheRow("passes", Club::passes);
        keepsTheRow("gives", c -> c.gives(0, 2, 5));
        keepsTheRow("wages", c -> c.wages(0, 5));
        keepsTheRow("undo", Club::undo);
        keepsTheRow("heard", c -> c.heard(0, 0));
        keepsTheRow("forget", Club::forget);
        keepsTheRow("saw", c -> c.saw(0, 0));
        keepsTheRow("denies", Club::denies);
        keepsTheRow("keep", c -> c.keep(0) ? 1 : 0);
        keepsTheRow("again", c -> c.again(0) ? 1 : 0);
    }

    private static void undone(String what, boolean tellsRow, ToLongFunction<Club> call) {
        Club c = richWithoutText();
        Club.due(what + " is refused", call.applyAsLong(c) < 0, false);
        Club.due("what can be undone behind " + what, c.count(9), 5);
        Club.due("undo() of " + what, c.undo(), 4);
        Club.due("all behind undo() of " + what, c.everything(!tellsRow), richWithoutText().everything(!tellsRow));
    }

    /** What was heard, seen, kept, THE RULE, the ROW: no act changes them, nor does undo(). */
    private static void actsAndUndo() {
        Club.says("all of PIECES, TURN, QUARTER, MOVES are as ahead of it (and all else as it was)");
        undone("moves", true, c -> c.moves(0, 1));
        undone("a capture", true, c -> c.moves(2, 2));
        undone("quarters", true, c -> c.quarters(1));
        undone("quarters(60)", true, c -> c.quarters(60));
        undone("quarters(0)", true, c -> c.quarters(0));
        undone("passes", false, Club::passes);
        undone("gives", false, c -> c.gives(0, 2, 5));
        undone("wages", false, c -> c.wages(0, 9));
        undone("game", true, c -> c.game("m2c1/n9w01g0205"));
        undone("game of one ACT", true, c -> c.game("/m9a1"));
    }

    private static void rowsAndFractions() {
        Club.says("Fractions are told in lowest terms, upper and lower number (0 by 1)");
        Club c = Club.of("Ka150;Kb150");
        c.odds(0, 1, 5);
        c.rowIs("3 by 4", 3, 4);
        c.odds(0, 2, 10);
        c.rowIs("0 by 1", 0, 1);
        c.odds(0, 0, 5);
        c.rowIs("1 by 1", 1, 1);
        Club.says("Sets (of PIECES, SQUARES) are bits");
        Club set = Club.of("Ke500;na100");
        Club.due("SQUARES", set.goes(0), 1 << 18 | 1 << 19 | 1 << 23);
        Club.due("PIECES", set.count(1), 3);
        Club.says("Rows of numbers are compared from the first on");
        Club way = Club.of("Ka100;nb200");
        Club.due("hops", way.hops(0, Club.at("c3")), 3);
        way.rowIs("hops", 1, 7, 12);
        Club.says("What is asked of QUARTERS to come is asked as if nothing else were done");
        Club then = Club.of("Ka105;nb209", "1");
        Club.due("later", then.later(0, 5), 0);
        Club.due("when", then.when(1), 10);
        Club.due("QUARTER", then.count(3), 0);
        Club.due("later, again", then.later(0, 5), 0);
    }
}
