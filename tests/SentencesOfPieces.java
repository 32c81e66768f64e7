/** Promises 1 to 9, sentence by sentence. */
public final class SentencesOfPieces {
    private static final long THROWN = Club.THROWN;
    private static final int LEAST = Club.LEAST;
    private static final int MOST = Club.MOST;
    private static final String EIGHT = "Ka100;Qb101;Rc102;Bd103;Ne104;Pa205;kb206;qc299";

    public static void main(String[] args) {
        newObject();
        fourSigns();
        highestByteFirst();
        firstSigns();
        linesThatCome();
        endsTooEarly();
        moreThan47();
        noRoom();
        notFree();
        nothingComes();
        piece();
        square();
        rent();
        sheetOfBytes();
        sheetOfShorts();
        sheetOfInts();
        sheetOfNone();
        sheetAndUndo();
        sheetsOut();
        Club.finish("SentencesOfPieces");
    }

    private static void newObject() {
        Club.promise(1);
        Club.says("No PIECES");
        Club c = new Club();
        for (int what = 0; what <= 11; what++) {
            Club.due("count(" + what + ")", c.count(what), 0);
        }
        Club.due("piece(0, 0)", c.piece(0, 0), THROWN);
        Club.due("rent(0, 0)", c.rent(0, 0), THROWN);
        Club.due("row(0)", c.row(0), THROWN);
        for (int square = 0; square < 25; square++) {
            Club.due("square(" + square + ")", c.square(square), 8);
        }
        Club.due("moves(0, 0)", c.moves(0, 0), -1);
        Club.due("goes(0)", c.goes(0), -1);
        Club.due("undo()", c.undo(), -1);
        Club.due("again(0)", c.again(0), false);
        Club.due("again(1)", c.again(1), false);
        Club.due("forget()", c.forget(), 0);
        Club.due("denies()", c.denies(), 0);
        Club.due("fits()", c.fits(), 0);
        Club.due("choices()", c.choices(), 0);
    }

    // ---- THE TEXT

    private static void fourSigns() {
        Club.promise(2);
        Club.says("Four signs come behind THE TEXT: how many it has. Refused: there would be more than 80");
        Club c = new Club();
        for (int i = 1; i <= 20; i++) {
            Club.due("sign()", c.sign(0x31323334), 4 * i);
            Club.due("signs", c.count(11), 4 * i);
        }
        Club.due("sign() of 80", c.sign(0), -1);
        Club.due("signs", c.count(11), 80);
        int[] more = {79, 78, 77};
        for (int n : more) {
            c.end(n);
            Club.due("sign() of " + n, c.sign(0), -1);
            Club.due("signs", c.count(11), n);
        }
        c.end(76);
        Club.due("sign() of 76", c.sign(0), 80);
        Club part = new Club();
        part.sign(0x37373737);
        part.end(1);
        Club.due("sign() of 1", part.sign(0x2B313030), 5);
        part.end(3);
        part.pieces("Ka100");
        part.put("7");
        Club.due("sign() of 1", part.sign(0x2B383030), 5);
        part.end(3);
        part.rule();
        Club.due("RENT by 7+8", part.rent(0, 0), 15);
    }

    private static void highestByteFirst() {
        Club.says("of v the highest byte first");
        Club c = new Club();
        c.sign('K' << 24 | 'b' << 16 | '3' << 8 | '4');
        c.sign('2' << 24 | ';' << 16 | 'q' << 8 | 'e');
        c.sign('1' << 24 | '0' << 16 | '9' << 8 | 0xFF);
        c.end(11);
        Club.due("pieces()", c.pieces(), 2);
        Club.due("SQUARE", c.piece(0, 2), 11);
        Club.due("PURSE", c.piece(0, 3), 42);
        Club.due("SQUARE", c.piece(1, 2), 4);
        Club.due("PURSE", c.piece(1, 3), 9);
        Club.says("of v the highest byte first: each byte alone is a sign");
        int[] v = {'K' << 24 | 0x80000000, 'K' << 24 | 0xE1 << 16, 'K' << 24 | 'a' << 16 | 0xB1 << 8,
            'K' << 24 | 'a' << 16 | '1' << 8 | 0xB0, 0xFFFFFFFF, 0x80000000, 'K' << 24 | 0xFFFFFF};
        int[] faults = {-1, -2, -3, -4, -1, -1, -2};
        for (int i = 0; i < v.length; i++) {
            Club.due("sign()", c.sign(v[i]), 4);
            Club.due("pieces() of v " + v[i], c.pieces(), faults[i]);
        }
        for (int i = 0; i < 4; i++) {
            c.sign(0x37373737 & ~(255 << 8 * i) | 0x20 << 8 * i);
            Club.due("rule() of a blank among digits", c.rule(), i == 3 ? -1 : i == 0 ? -4 : i - 4);
        }
    }

    private static void firstSigns() {
        Club.promise(3);
        Club.says("THE TEXT has its first n signs alone: true; false if it has not so many, or n is below 0");
        Club c = new Club();
        Club.due("end(0) of none", c.end(0), true);
        Club.due("end(1) of none", c.end(1), false);
        c.sign('7' << 24 | '+' << 16 | '8' << 8 | '9');
        Club.due("end(5) of 4", c.end(5), false);
        Club.due("end(80) of 4", c.end(80), false);
        Club.due("end(-1) of 4", c.end(-1), false);
        Club.due("end(least) of 4", c.end(LEAST), false);
        Club.due("end(most) of 4", c.end(MOST), false);
        Club.due("signs", c.count(11), 4);
        Club.due("end(4) of 4", c.end(4), true);
        Club.due("signs", c.count(11), 4);
        Club.due("end(3) of 4", c.end(3), true);
        Club.due("signs", c.count(11), 3);
        Club.due("end(4) of 3", c.end(4), false);
        Club.due("rule()", c.rule(), 0);
        c.pieces("Ka100");
        Club.due("RENT by the first signs", c.rent(0, 0), 15);
        Club.due("end(1) behind a reading", c.end(1), false);
        c.put("9");
        Club.due("end(0)", c.end(0), true);
        Club.due("signs", c.count(11), 0);
        Club.due("rule() of none", c.rule(), 0);
        Club.due("RENT", c.rent(0, 12), 3);
        c.put("7".repeat(80));
        Club.due("end(81) of 80", c.end(81), false);
        Club.due("end(80) of 80", c.end(80), true);
        Club.due("end(79) of 80", c.end(79), true);
    }

    // ---- pieces

    private static void linesThatCome() {
        Club.promise(4);
        Club.says("THE TEXT tells of PIECES (an empty one: nothing): how many LINES");
        Club c = new Club();
        Club.due("an empty one", c.pieces(""), 0);
        Club.due("PIECES", c.count(0), 0);
        Club.due("one LINE", c.pieces("Ka142"), 1);
        Club.due("two LINES", c.pieces("qb207;Pc399"), 2);
        Club.due("PIECES", c.count(0), 3);
        Club.due("piece 0", c.state(), "TURN 0 QUARTER 0 MOVES 0 0/0/0/42 1/1/6/7 5/0/12/99");
        Club.due("an empty one", c.pieces(""), 0);
        Club.due("PIECES", c.count(0), 3);
        Club.due("five LINES", c.pieces("Kd100;Kd200;Kd300;Kd400;Kd500"), 5);
        Club.due("an empty one, no room", c.pieces(""), 0);
        Club.says("a text of at most 47 signs");
        Club eight = new Club();
        Club.due("eight LINES of 47 signs", eight.pieces(EIGHT), 8);
        Club.due("the last one's PURSE", eight.piece(7, 3), 99);
        Club.says("THE TEXT tells of PIECES (TURN, QUARTER, MOVES, THE RULE are as they were)");
        Club late = Club.of("Ka150", "n+1");
        late.moves(0, 1);
        late.quarters(3);
        Club.due("one more", late.pieces("kc350"), 1);
        Club.due("TURN, QUARTER, MOVES", late.count(2) * 100 + late.count(3) * 10 + late.count(4), 131);
        Club.due("RENT", late.rent(1, 0), 4);
    }

    private static void fails(String existing, String text, int at) {
        Club c = existing.isEmpty() ? new Club() : Club.of(existing);
        int had = c.count(0);
        Club.due("pieces() of " + text, c.pieces(text), -1 - at);
        Club.due("PIECES behind it", c.count(0), had);
        Club.due("signs behind it", c.count(11), 0);
    }

    private static void endsTooEarly() {
        Club.says("-1 - p: the sign at p can't stand there (its end, if it ends too early");
        String line = "qc345";
        for (int n = 1; n < 5; n++) {
            fails("", line.substring(0, n), n);
            fails("", "Ka100;" + line.substring(0, n), 6 + n);
            fails("", EIGHT.substring(0, 42 + n), 42 + n);
        }
        fails("", "Ka100;", 6);
        fails("", "Ka100;Kb100;", 12);
        fails("", EIGHT.substring(0, 42), 42);
        Club.says("its end (what end() has cut off is no more there)");
        for (int n = 1; n < 5; n++) {
            Club c = new Club();
            c.put("Ka100;Kb100");
            c.end(n);
            Club.due("pieces() of the first " + n + " signs", c.pieces(), -1 - n);
            c.put("Ka100;Kb100");
            c.end(6 + n);
            Club.due("pieces() of the first " + (6 + n) + " signs", c.pieces(), -7 - n);
        }
        Club cut = new Club();
        cut.put("Ka100;Kb100");
        cut.end(5);
        Club.due("pieces() of the first 5 signs", cut.pieces(), 1);
        Club.says("-1 - p: the sign at p can't stand there");
        fails("", "1a100", 0);
        fails("", "KA100", 1);
        fails("", "K1100", 1);
        fails("", "Kaa00", 2);
        fails("", "Ka1;0", 3);
        fails("", "Ka10;", 4);
        fails("", "Ka100,", 5);
        fails("", "Ka100K", 5);
        fails("", "Ka1000", 5);
        fails("", "Ka100;;", 6);
        fails("", "Ka100;Kb100 ", 11);
        fails("", ";Ka100", 0);
        fails("", "Ka100;Kb100x?", 11);
        fails("", "?a100;?", 0);
    }

    private static void moreThan47() {
        Club.says("47, if it has more and the first 47 could go on or end");
        fails("", EIGHT + ";", 47);
        fails("", EIGHT + "?", 47);
        fails("", EIGHT + ";Ke500", 47);
        fails("", EIGHT + ";Ka100", 47);
        fails("", EIGHT + ";" + EIGHT.substring(0, 32), 47);
        Club.says("47, if the first 47 could go on or end (else the sign that can't stand)");
        fails("", EIGHT.substring(0, 46) + "x;", 46);
        fails("", EIGHT.substring(0, 45) + "x9;", 45);
        fails("", EIGHT.substring(0, 42) + "x" + EIGHT.substring(43) + "9", 42);
        fails("", "x" + EIGHT.substring(1) + "9", 0);
        fails("", EIGHT.substring(0, 43) + "a199;", 43);
        fails("Ke500", EIGHT + ";", 42);
        fails("Ka100", EIGHT + ";", 1);
    }

    private static void noRoom() {
        Club.says("the first sign of a LINE for which there is no room");
        String seven = EIGHT.substring(0, 41);
        fails(seven, "Ke500;Kd500", 6);
        fails(seven, "Ke500;?", 6);
        fails(seven, "Ke500;", 6);
        fails(seven, "Ke50?;Kd500", 4);
        fails(seven, "Ke500;Ka100", 6);
        fails(EIGHT, "Ke500", 0);
        fails(EIGHT, "?", 0);
        fails(EIGHT, "Ka1", 0);
        fails(EIGHT, "K", 0);
        fails("Ka100", "Kb100;Kc100;Kd100;Ke100;Kb200;Kc200;Kd200;Ke200", 42);
        fails("Ka100;Ka200;Ka300;Ka400;Ka500", "Kb100;Kc100;Kd100;Ke100", 18);
        Club c = Club.of(seven);
        Club.due("one for which there is room", c.pieces("Ke500"), 1);
        Club.due("none of it is lost", c.piece(7, 2), 24);
    }

    private static void notFree() {
        Club.says("the letter of a SQUARE that is not free, once its digit is there");
        fails("Ka100", "Ka100", 1);
        fails("Ka100", "qa100", 1);
        fails("Ka100", "Ka1", 1);
        fails("Ka100", "Ka", 2);
        fails("Ka100", "Ka6", 2);
        fails("Ka100", "Ka1?", 1);
        fails("Ka100", "Ka10?", 1);
        fails("Ka100", "?a100", 0);
        fails("", "Ka100;Ka100", 7);
        fails("", "Ka100;Kb100;Ka100", 13);
        fails("", "Ka100;Kb100;Kb1", 13);
        fails("", "Ka100;Kb100;Kb", 14);
        fails("", "Ka100;Ka1?", 7);
        fails("Ke500", "Ka100;Ke500;?", 7);
        fails("", EIGHT.substring(0, 42) + "qa199", 43);
        Club c = Club.of("Ka199;rb100;nc150");
        c.moves(0, 5);
        c.quarters(1);
        Club.says("the letter of a SQUARE that is not free (one that is left is free, and one on which a piece went OUT)");
        Club.due("to where it went", c.pieces("Qa200"), -2);
        Club.due("to what it left", c.pieces("Qa100"), 1);
        Club.due("to where one went OUT", c.pieces("Qb100"), 1);
        Club.due("once more", c.pieces("Qb100"), -2);
    }

    private static void nothingComes() {
        Club.says("Nothing of it comes, if a LINE can't");
        Club c = Club.of("Ka150");
        Club.due("the second can't", c.pieces("Qb100;Qa100"), -8);
        Club.due("PIECES", c.count(0), 1);
        Club.due("the first one's SQUARE", c.square(1), 8);
        Club.due("the third ends too early", c.pieces("Qb100;Qc100;Q"), -14);
        Club.due("PIECES", c.count(0), 1);
        Club.due("the same without it", c.pieces("Qb100;Qc100"), 2);
        Club.due("PIECES", c.count(0), 3);
    }

    // ---- readings

    private static void piece() {
        Club.promise(6);
        Club c = Club.of("Kb150;pc307;re402", "5+q");
        Club.says("what 0: KIND, 1: SIDE, 2: SQUARE (25: OUT), 3: PURSE, 4: RENT of its SQUARE now (0: OUT)");
        long[] due = {5, 1, 12, 7, 10};
        for (int what = 0; what < 5; what++) {
            Club.due("piece(1, " + what + ")", c.piece(1, what), due[what]);
        }
        c.quarters(1);
        long[] out = {5, 1, 25, 0, 0};
        for (int what = 0; what < 5; what++) {
            Club.due("piece(1, " + what + ") of one that is OUT", c.piece(1, what), out[what]);
        }
        Club.due("RENT of the one that stays", c.piece(0, 4), 5);
        Club.says("NoSuchElementException: none such, another what");
        for (int what : new int[] {-1, 5, 6, LEAST, MOST}) {
            Club.due("piece(0, " + what + ")", c.piece(0, what), THROWN);
            Club.due("piece(1, " + what + ") of one that is OUT", c.piece(1, what), THROWN);
        }
        for (int p : new int[] {-1, 3, 7, 8, LEAST, MOST}) {
            for (int what = 0; what < 5; what++) {
                Club.due("piece(" + p + ", " + what + ")", c.piece(p, what), THROWN);
            }
        }
        Club.due("the last one", c.piece(2, 0), 2);
    }

    private static void square() {
        Club.promise(7);
        Club.says("The piece that stands on a SQUARE (8: none)");
        Club c = Club.of("Ka150;pc300;re550");
        Club.due("square(0)", c.square(0), 0);
        Club.due("square(12)", c.square(12), 1);
        Club.due("square(24)", c.square(24), 2);
        Club.due("square(1)", c.square(1), 8);
        c.quarters(1);
        Club.due("square(12) of one that is OUT", c.square(12), 8);
        c.moves(0, 1);
        Club.due("square(0) behind a MOVE", c.square(0), 8);
        Club.due("square(1) behind a MOVE", c.square(1), 0);
        Club.says("NoSuchElementException: none such");
        for (int s : new int[] {-1, 25, 26, LEAST, MOST}) {
            Club.due("square(" + s + ")", c.square(s), THROWN);
        }
    }

    private static void rent() {
        Club.promise(8);
        Club.says("RENT of a SQUARE for a piece that is not OUT, stood it there, all else being as it is (who stands on it aside)");
        Club c = Club.of("Kb150;pc300;re550;Nd350", "k+10*(x=y)");
        Club.due("of its own", c.rent(0, 1), 0);
        Club.due("of one beside", c.rent(0, 6), 11);
        Club.due("its own SQUARE is left then", c.rent(3, 6), 12);
        Club.due("itself is no other", c.rent(1, 6), 11);
        Club.due("where another one stands", c.rent(0, 12), 11);
        Club.due("where one of the other SIDE stands", c.rent(0, 24), 10);
        Club.due("where a king could never go", c.rent(0, 18), 13);
        Club.due("nothing is moved", c.piece(0, 2), 1);
        c.rule("c*10+q");
        Club.due("for a black pawn", c.rent(1, 3), 15);
        Club.due("for a white knight", c.rent(3, 3), 4);
        c.quarters(1);
        Club.says("NoSuchElementException: none such, OUT");
        Club.due("those that are not OUT", c.count(1), 1 | 4 | 8);
        Club.due("OUT", c.rent(1, 0), THROWN);
        Club.due("OUT, where it stood", c.rent(1, 12), THROWN);
        for (int p : new int[] {-1, 4, 7, 8, LEAST, MOST}) {
            Club.due("rent(" + p + ", 0)", c.rent(p, 0), THROWN);
        }
        for (int s : new int[] {-1, 25, 26, LEAST, MOST}) {
            Club.due("rent(0, " + s + ")", c.rent(0, s), THROWN);
        }
        Club.due("rent(0, 24)", c.rent(0, 24), 0);
        Club.due("rent(2, 0)", c.rent(2, 0), 12);
    }

    // ---- sheets

    private static void sheet(int kind, int n, int f, int step, int... want) {
        Club c = Club.of("Ka111;Qb122;rc133;nd144;Pe155");
        int sum = 0;
        for (int purse : want) {
            sum += purse;
        }
        String what = "sheet(" + kind + ", " + n + ", " + f + ", " + step + ")";
        Club.due(what, c.sheet(kind, n, f, step), sum);
        for (int i = 0; i < 5; i++) {
            Club.due("PURSE " + i + " by " + what, c.piece(i, 3), i < want.length ? want[i] : 0);
        }
    }

    private static void sheetOfBytes() {
        Club.promise(9);
        Club.says("bytes (kind 0) of n entries f, f + step, .. (the lowest bits, with their sign; put to 0 .. 99)");
        sheet(0, 5, 1, 2, 1, 3, 5, 7, 9);
        sheet(0, 5, 97, 1, 97, 98, 99, 99, 99);
        sheet(0, 5, 126, 1, 99, 99, 0, 0, 0);
        sheet(0, 5, 254, 1, 0, 0, 0, 1, 2);
        sheet(0, 5, -1, 1, 0, 0, 1, 2, 3);
        sheet(0, 5, 5, 256, 5, 5, 5, 5, 5);
        sheet(0, 5, -251, 256, 5, 5, 5, 5, 5);
        sheet(0, 5, 65536 + 7, 1, 7, 8, 9, 10, 11);
        sheet(0, 5, 9, -3, 9, 6, 3, 0, 0);
        sheet(0, 5, -128, -1, 0, 99, 99, 99, 99);
        sheet(0, 5, 50, 128, 50, 0, 50, 0, 50);
        sheet(0, 5, LEAST, 1, 0, 1, 2, 3, 4);
        sheet(0, 5, MOST, 1, 0, 0, 1, 2, 3);
    }

    private static void sheetOfShorts() {
        Club.says("shorts (1) of n entries f, f + step, .. (the lowest bits, with their sign; put to 0 .. 99)");
        sheet(1, 5, 1, 2, 1, 3, 5, 7, 9);
        sheet(1, 5, 32766, 1, 99, 99, 0, 0, 0);
        sheet(1, 5, 65534, 1, 0, 0, 0, 1, 2);
        sheet(1, 5, 5, 65536, 5, 5, 5, 5, 5);
        sheet(1, 5, 126, 1, 99, 99, 99, 99, 99);
        sheet(1, 5, 254, 1, 99, 99, 99, 99, 99);
        sheet(1, 5, -32768, -1, 0, 99, 99, 99, 99);
        sheet(1, 5, -65531, 65536, 5, 5, 5, 5, 5);
        sheet(1, 5, -2, 1, 0, 0, 0, 1, 2);
    }

    private static void sheetOfInts() {
        Club.says("ints (2) of n entries f, f + step, .. (put to 0 .. 99)");
        sheet(2, 5, 1, 2, 1, 3, 5, 7, 9);
        sheet(2, 5, 97, 1, 97, 98, 99, 99, 99);
        sheet(2, 5, 2, -1, 2, 1, 0, 0, 0);
        sheet(2, 5, 65536, 0, 99, 99, 99, 99, 99);
        sheet(2, 5, -65530, 65535, 0, 5, 99, 99, 99);
        sheet(2, 5, LEAST, 0, 0, 0, 0, 0, 0);
        Club.says("entries f, f + step, .. (ints, which wrap around)");
        sheet(2, 5, MOST, 1, 99, 0, 0, 0, 0);
        sheet(2, 5, LEAST, -1, 0, 99, 99, 99, 99);
        sheet(2, 5, 5, 0x40000000, 5, 99, 0, 0, 5);
        sheet(2, 5, 7, LEAST, 7, 0, 7, 0, 7);
        Club.says("those behind it have 0; entries beyond them are left aside");
        sheet(2, 0, 50, 1);
        sheet(2, 1, 50, 1, 50);
        sheet(2, 4, 50, 1, 50, 51, 52, 53);
        sheet(2, 5, 50, 1, 50, 51, 52, 53, 54);
        sheet(2, 8, 50, 1, 50, 51, 52, 53, 54);
        sheet(0, 0, 50, 1);
        sheet(0, 8, 50, 1, 50, 51, 52, 53, 54);
        sheet(1, 0, 50, 1);
        sheet(1, 8, 50, 1, 50, 51, 52, 53, 54);
        Club eight = Club.of(EIGHT);
        Club.due("eight entries of eight", eight.sheet(2, 8, 1, 1), 36);
        Club.due("the eighth PURSE", eight.piece(7, 3), 8);
        Club.due("seven entries of eight", eight.sheet(2, 7, 1, 1), 28);
        Club.due("the eighth PURSE", eight.piece(7, 3), 0);
        Club.due("without PIECES", new Club().sheet(2, 8, 9, 9), 0);
    }

    private static void sheetOfNone() {
        Club.says("a missing one (3); -3: missing (all 0)");
        int[] entries = {-5, LEAST, -1, 0, 3, 8};
        for (int n : entries) {
            Club c = Club.of("Ka111;Qb122;rc133");
            Club.due("sheet(3, " + n + ")", c.sheet(3, n, 50, 1), -3);
            Club.due("PURSES", c.count(5) + c.count(6), 0);
            Club.due("those that are not OUT", c.count(1), 7);
        }
        Club.due("without PIECES", new Club().sheet(3, 0, 0, 0), -3);
        Club c = Club.of("Ka111;Qb122;rc133");
        for (int kind = 0; kind < 3; kind++) {
            Club.says("-2: n below 0 (of kinds 0 .. 2; nothing changes)");
            Club.due("n -1 of kind " + kind, c.sheet(kind, -1, 50, 1), -2);
            Club.due("n least of kind " + kind, c.sheet(kind, LEAST, 50, 1), -2);
            Club.says("NONE: another kind, n above 8 (these first)");
            Club.due("n 9 of kind " + kind, c.sheet(kind, 9, 50, 1), -1);
            Club.due("n most of kind " + kind, c.sheet(kind, MOST, 50, 1), -1);
        }
        Club.due("n 9, missing", c.sheet(3, 9, 50, 1), -1);
        for (int kind : new int[] {-1, 4, 5, LEAST, MOST}) {
            Club.due("kind " + kind, c.sheet(kind, 3, 50, 1), -1);
            Club.due("kind " + kind + ", n -1", c.sheet(kind, -1, 50, 1), -1);
            Club.due("kind " + kind + ", n 9", c.sheet(kind, 9, 50, 1), -1);
        }
        Club.due("PURSES", c.state(), "TURN 0 QUARTER 0 MOVES 0 0/0/0/11 1/0/1/22 2/1/2/33");
    }

    private static void sheetAndUndo() {
        Club.says("Nothing is kept of it that could be undone");
        Club c = Club.of("Ka111;Qb122;rc133");
        c.sheet(2, 3, 50, 1);
        Club.due("what can be undone", c.count(9), 0);
        Club.due("undo()", c.undo(), -1);
        Club.due("PURSE", c.piece(0, 3), 50);
        Club.says("an undo() behind it brings PURSES back, too, as they were ahead of what is undone");
        c.passes();
        c.sheet(2, 3, 7, 1);
        Club.due("what can be undone", c.count(9), 1);
        Club.due("undo()", c.undo(), 0);
        Club.due("PURSE as it was ahead of passes()", c.piece(0, 3), 50);
        c.passes();
        c.wages(0, 1);
        c.sheet(3, 0, 0, 0);
        Club.due("undo() of wages()", c.undo(), 1);
        Club.due("PURSE ahead of wages()", c.piece(1, 3), 51);
        c.sheet(3, 0, 0, 0);
        c.undo();
        Club.due("PURSE ahead of passes()", c.piece(1, 3), 51);
        Club.says("PURSES of PIECES (nothing else of them; what is kept keeps its own)");
        Club kept = Club.of("Ka111;rc133");
        kept.keep(0);
        kept.sheet(2, 2, 99, 0);
        kept.passes();
        kept.again(0);
        Club.due("PURSE as kept", kept.piece(0, 3), 11);
    }

    private static void sheetsOut() {
        Club.says("those of PIECES that are OUT stay 0): the sum of all that there are");
        Club c = Club.of("Ka150;Qb100;rc150");
        c.quarters(1);
        Club.due("those that are not OUT", c.count(1), 5);
        Club.due("ints", c.sheet(2, 3, 10, 10), 10 + 30);
        Club.due("PURSE of the one that is OUT", c.piece(1, 3), 0);
        Club.due("PURSE behind it", c.piece(2, 3), 30);
        Club.due("bytes", c.sheet(0, 3, 10, 10), 10 + 30);
        Club.due("shorts", c.sheet(1, 3, 10, 10), 10 + 30);
        Club.due("fewer entries", c.sheet(2, 2, 10, 10), 10);
        Club.due("it stays OUT", c.piece(1, 2), 25);
    }
}
