import java.util.NoSuchElementException;

/** Each promise of the document by itself: ordinary calls, the edges that it names, wrong arguments. */
public final class PromisesTest {
    /** 0 in COLUMNS 0 and 1 (TEACHER 0), 1 and 2 in COLUMN 1, 3 in COLUMN 2, 4 OUT. */
    private static final String DESK = "4x3;0t0z2@0;0t0z1@1;1t1z2@1;2t2z2@1;3t3z3@2;4t4z1";
    /** Of these 0, 3 and 4 FIT. */
    private static final String PUPILS = "01,12,012,03,023,14";
    private static final int LEAST = Integer.MIN_VALUE;
    private static final int GREATEST = Integer.MAX_VALUE;

    private static final Checks CHECKS = new Checks();

    private PromisesTest() {
    }

    public static void main(String[] args) {
        told();
        texts();
        changes();
        there();
        whoFits();
        moves();
        cures();
        seats();
        rowStays();
        CHECKS.close("PromisesTest");
    }

    private static void due(String call, long got, long want) {
        CHECKS.due(call, got, want);
    }

    private static OptionLattice usual() {
        return Checks.made(DESK, PUPILS);
    }

    private static boolean throwsAt(OptionLattice x, int i) {
        try {
            x.row(i);
            return false;
        } catch (NoSuchElementException e) {
            return true;
        }
    }

    // ---- promises 1 to 3

    private static void told() {
        OptionLattice x = new OptionLattice();
        int[] atFirst = {4, 5, 0, 0, 0, 0, 0, 0, 0, 0, -1};
        for (int what = 0; what <= 10; what++) {
            due("1: count(" + what + ")", x.count(what), atFirst[what]);
        }
        due("1: no BARS", x.bars(9, 3, false), -2);
        due("1: NONE", OptionLattice.NONE, -1);
        for (int i = 1; i <= 60; i++) {
            due("2: sign " + i, x.sign(0x34783520), 4 * i);
        }
        due("2: more than 240", x.sign(0x20202020), -1);
        due("2: stays 240", x.count(8), 240);
        CHECKS.due("3: end(241)", x.end(241), false);
        CHECKS.due("3: end(-1)", x.end(-1), false);
        CHECKS.due("3: end(least)", x.end(LEAST), false);
        CHECKS.due("3: end(greatest)", x.end(GREATEST), false);
        due("3: stays 240", x.count(8), 240);
        CHECKS.due("3: end(240)", x.end(240), true);
        CHECKS.due("3: end(237)", x.end(237), true);
        due("2: 237 and 4 are too many", x.sign(0), -1);
        CHECKS.due("3: end(236)", x.end(236), true);
        due("2: 236 and 4", x.sign(0), 240);
        CHECKS.due("3: end(3)", x.end(3), true);
        due("2: the highest byte is first", x.desk(), 0);
        CHECKS.due("3: end(1) of none", x.end(1), false);
        CHECKS.due("3: end(0) of none", x.end(0), true);
        due("2: signs up to 255", x.sign(-1), 4);
        due("2: sign 255 is no desk", x.desk(), -21);
    }

    // ---- promises 4 and 5

    private static void texts() {
        OptionLattice x = new OptionLattice();
        String[] desks = {
            "", "0", "7", "a", "4", "4y", "4x", "4x0", "4xa", "4x5,", "4x5;", "4x5;x", "4x5;b", "4x5;ba", "4x5;b2",
            "4x5;b24", "4x5;b2;", "4x5;b2033", "4x5;b210", "4x5;b23;b13;b20", "4x5;b00;b01", "4x5;1t3z1;b30", "4x5;0", "4x5;0x",
            "4x5;0t", "4x5;0ta", "4x5;0t1", "4x5;0t1@", "4x5;0t1z", "4x5;0t1z0", "4x5;0t1z05", "4x5;0t1z31",
            "4x5;0t1z40", "4x5;0t1z300", "4x5;0t1z9 ", "4x5;0t1z9@", "4x5;0t1z9@4", "4x5;0t1z9@a", "4x5;0t1z9@00",
            "4x5;b13;0t1z9@3", "1x1;0t0z1@0;1t1z1@0", "1x1;0t0z1@0;1t1z1@", "2x2;0t0z1@0;1t0z1@0", "4x5 ",
        };
        int[] faults = {
            0, 0, 0, 0, 1, 1, 2, 2, 2, 3, 4, 4, 5, 5, 6,
            6, 6, 8, 7, 13, 9, 11, 5, 5,
            6, 6, 7, 7, 8, 8, 8, 9,
            9, 10, 9, 10, 10, 10, 11,
            14, 18, 18, 18, 3,
        };
        for (int i = 0; i < desks.length; i++) {
            due("4: " + desks[i], Checks.desk(x, desks[i]), -21 - faults[i]);
            due("4: THE TEXT is empty behind " + desks[i], x.count(8), 0);
        }
        due("4: refused ones change nothing", x.count(0) * 10 + x.count(1), 45);
        goodDesks(new OptionLattice());
        manySections(new OptionLattice());
        pupilTexts(new OptionLattice());
    }

    private static void goodDesks(OptionLattice x) {
        due("4: the document's own", Checks.desk(x, "4x5;b203;0t2z20@1"), 1);
        due("4: BARS of it", x.bars(2, 0, false), 8);
        due("4: SUBJECT", x.section(0, 0), 0);
        due("4: TEACHER", x.section(0, 1), 2);
        due("4: SEATS", x.section(0, 2), 20);
        due("4: COLUMN", x.section(0, 3), 1);
        due("4: with PUPILS", Checks.pupils(x, "0,1"), 2);
        due("4: KEPT", x.keeps(0, true), 1);
        due("4: no lines", Checks.desk(x, "6x9"), 0);
        due("4: n", x.count(0), 6);
        due("4: ROOMS", x.count(1), 9);
        due("4: no PUPILS then", x.count(4), 0);
        due("4: no KEPT ones", x.count(5), 0);
        due("4: no BARS then", x.bars(2, 3, true), 8);
        due("4: SEATS 30, all COLUMNS barred", Checks.desk(x, "6x9;b7012345;9t7z30;9t8z3@5"), 2);
        due("4: OUT", x.count(3), 1);
        due("4: the last is in COLUMN 5", x.section(1, 3), 5);
        due("4: no COLUMN is LEGAL", x.legal(0), 0);
    }

    private static void manySections(OptionLattice x) {
        StringBuilder lines = new StringBuilder("1x9");
        for (int i = 0; i < 16; i++) {
            lines.append(";0t0z1");
        }
        due("4: 16 SECTIONS", Checks.desk(x, lines.toString()), 16);
        due("4: a 17th", Checks.desk(x, lines + ";0t0z1"), -21 - 100);
        due("4: BARS behind 16", Checks.desk(x, lines + ";b10"), 16);
        due("6: a 17th", x.opens(0, 0, 1), -2);
        due("6: NONE comes ahead of it", x.opens(0, 0, 0), -1);
        due("32: one more than 16 is but thought of", x.splits(0, 2), 0);
    }

    private static void pupilTexts(OptionLattice x) {
        String[] texts = {"a", "0,", ",", "00", "10", "01,21", "0123456", "01;2", "0,,1", "012345678"};
        int[] faults = {0, 2, 0, 1, 1, 4, 6, 2, 2, 6};
        due("5: two", Checks.pupils(x, "0,012345"), 2);
        due("5: KEPT", x.keeps(1, true), 1);
        for (int i = 0; i < texts.length; i++) {
            due("5: " + texts[i], Checks.pupils(x, texts[i]), -21 - faults[i]);
            due("5: THE TEXT is empty behind " + texts[i], x.count(8), 0);
        }
        due("5: refused ones change nothing", x.count(4), 2);
        due("5: nor KEPT ones", x.count(5), 2);
        due("5: CHOICES", x.pupil(1), 63);
        due("5: in place of those", Checks.pupils(x, "456789"), 1);
        due("5: none KEPT", x.count(5), 0);
        due("5: CHOICES to 9", x.pupil(0), 1008);
        StringBuilder many = new StringBuilder("9");
        for (int i = 1; i < 24; i++) {
            many.append(",9");
        }
        due("5: 24", Checks.pupils(x, many.toString()), 24);
        due("5: a 25th", Checks.pupils(x, many + ",9"), -21 - 47);
        due("5: the , of a 25th", Checks.pupils(x, many + ","), -21 - 47);
        due("5: 24 stay", x.count(4), 24);
        due("5: an empty one", Checks.pupils(x, ""), 0);
        due("5: none", x.count(4), 0);
    }

    // ---- promises 6 to 15

    private static void changes() {
        OptionLattice x = new OptionLattice();
        int[] wrong = {LEAST, -1, 10, GREATEST};
        for (int i : wrong) {
            due("6: opens(" + i + ", 0, 1)", x.opens(i, 0, 1), -1);
            due("6: opens(0, " + i + ", 1)", x.opens(0, i, 1), -1);
        }
        due("6: SEATS 0", x.opens(0, 0, 0), -1);
        due("6: SEATS 31", x.opens(0, 0, 31), -1);
        due("6: the first", x.opens(9, 9, 30), 0);
        due("6: the second", x.opens(0, 0, 1), 1);
        due("6: OUT", x.count(3), 3);
        x = usual();
        due("7: no such", x.closes(6), -1);
        due("7: no such", x.closes(-1), -1);
        due("7: one goes", x.closes(1), 5);
        due("7: those behind it get a number less", x.section(1, 0) * 10 + x.section(4, 0), 14);
        due("7: COLUMNS of its SUBJECT", x.subject(0), 1);
        due("7: OUT ones", x.count(3), 16);
        due("7: the last", x.closes(4), 4);
        due("8: no such", x.seats(4, 1), -1);
        due("8: 0", x.seats(0, 0), -1);
        due("8: 31", x.seats(0, 31), -1);
        due("8: were 2", x.seats(0, 30), 2);
        due("8: are 30", x.seats(0, 1), 30);
        places();
        barsAndRooms();
        choices();
    }

    private static void places() {
        OptionLattice x = usual();
        due("9: no such SECTION", x.puts(6, 0), -1);
        due("9: no such COLUMN", x.puts(0, 4), -1);
        due("9: no such COLUMN", x.puts(0, -1), -1);
        due("9: it is there", x.puts(0, 0), -2);
        due("9: its TEACHER is", x.puts(0, 1), -3);
        due("9: ROOMS", x.puts(5, 1), -3);
        due("9: 1 apart from 2", x.puts(2, 2), 5);
        due("9: it is there now", x.section(2, 3), 2);
        due("10: no such", x.takes(6), -1);
        due("10: is OUT", x.takes(5), -2);
        due("10: 1 is OUT", x.takes(2), 2);
        due("10: it is", x.section(2, 3), -2);
        x = usual();
        due("11: no such", x.swaps(0, 6), -1);
        due("11: no such", x.swaps(-1, 0), -1);
        due("11: in one COLUMN", x.swaps(2, 3), -2);
        due("11: one SECTION", x.swaps(0, 0), -2);
        due("11: one SECTION, OUT", x.swaps(5, 5), -2);
        due("11: TEACHER 0 is in COLUMN 1", x.swaps(0, 2), -3);
        due("11: nothing changed", x.section(0, 3) * 10 + x.section(2, 3), 1);
        due("11: of one TEACHER", x.swaps(0, 1), 3);
        due("11: changed", x.section(0, 3) * 10 + x.section(1, 3), 10);
        due("11: with one that is OUT, into a full COLUMN", x.swaps(5, 2), 2);
        due("11: it is OUT", x.section(2, 3), -2);
        due("11: this one is in", x.section(5, 3), 1);
        due("12: bars the way", x.bars(3, 1, true), 2);
        due("11: BARS", x.swaps(4, 5), -3);
        due("11: BARS, the other way round", x.swaps(5, 4), -3);
    }

    private static void barsAndRooms() {
        OptionLattice x = usual();
        due("12: no such TEACHER", x.bars(10, 0, true), -1);
        due("12: no such TEACHER", x.bars(-1, 0, true), -1);
        due("12: no such COLUMN", x.bars(0, 4, true), -1);
        due("12: no such COLUMN", x.bars(0, -1, false), -1);
        due("12: not so", x.bars(0, 2, false), -2);
        due("12: a SECTION is there", x.bars(0, 0, true), -3);
        due("12: comes", x.bars(0, 3, true), 8);
        due("12: comes", x.bars(0, 2, true), 12);
        due("12: is so", x.bars(0, 2, true), -2);
        due("12: not LEGAL", x.puts(0, 2), -3);
        due("12: goes", x.bars(0, 3, false), 4);
        due("12: LEGAL", x.legal(0), 9);
        due("13: 0", x.rooms(0), -1);
        due("13: 10", x.rooms(10), -1);
        due("13: more are in COLUMN 1", x.rooms(2), -3);
        due("13: as many", x.rooms(3), 3);
        due("13: were 3", x.rooms(9), 3);
        due("13: are 9", x.count(1), 9);
        due("13: nothing is full", x.count(6), 0);
    }

    private static void choices() {
        OptionLattice x = usual();
        due("14: no such PUPIL", x.chooses(6, 0, true), -1);
        due("14: no such PUPIL", x.chooses(-1, 0, true), -1);
        due("14: no such SUBJECT", x.chooses(0, 10, true), -1);
        due("14: is so", x.chooses(0, 1, true), -2);
        due("14: is not so", x.chooses(0, 2, false), -2);
        due("14: goes", x.chooses(0, 1, false), 1);
        due("14: none", x.chooses(0, 0, false), -3);
        for (int s = 1; s < 6; s++) {
            due("14: comes", x.chooses(0, s, true), (2 << s) - 1);
        }
        due("14: a 7th", x.chooses(0, 9, true), -3);
        due("14: six stay", x.pupil(0), 63);
        due("15: no such", x.keeps(6, true), -1);
        due("15: is not", x.keeps(5, false), -2);
        due("15: one", x.keeps(5, true), 1);
        due("15: two", x.keeps(0, true), 2);
        due("15: is", x.keeps(0, true), -2);
        due("15: one less", x.keeps(5, false), 1);
        due("15: bits", x.count(5), 1);
    }

    // ---- promises 16 to 21, 41

    private static void there() {
        OptionLattice x = usual();
        int[] first = {0, 0, 2, 0, -1};
        for (int what = 0; what <= 4; what++) {
            due("16: what " + what, x.section(0, what), first[what]);
        }
        due("16: what -1", x.section(0, -1), -1);
        due("16: OUT", x.section(5, 3), -2);
        due("16: no such", x.section(6, 3), -1);
        due("17: no such", x.column(4), -1);
        due("17: COLUMN 1", x.column(1), 14);
        CHECKS.dueRow("17", x, 3, 7);
        due("17: an empty one", x.column(3), 0);
        CHECKS.dueRow("17", x, 0, 0);
        due("18: no such", x.subject(10), -1);
        due("18: SUBJECT 0", x.subject(0), 3);
        CHECKS.dueRow("18", x, 2, 4, 3);
        due("18: OUT", x.subject(4), 0);
        CHECKS.dueRow("18", x, 1, 1, 1);
        due("19: no such", x.pupil(6), -1);
        due("19: does not FIT", x.pupil(2), 7);
        CHECKS.dueRow("19", x, 0, 0);
        x.keeps(3, true);
        due("19: FITS and is KEPT", x.pupil(3), 9);
        CHECKS.dueRow("19", x, 1, 1);
        due("20: no such", x.legal(6), -1);
        due("20: its own, too", x.legal(2), 15);
        CHECKS.dueRow("20", x, 4);
        due("20: a full COLUMN", x.legal(5), 13);
        CHECKS.dueRow("20", x, 3);
        x.bars(0, 3, true);
        due("21: TEACHER", x.why(0, 1), 1);
        due("21: BARS", x.why(0, 3), 2);
        due("21: ROOMS", x.why(5, 1), 3);
        x.bars(4, 1, true);
        due("21: BARS ahead of ROOMS", x.why(5, 1), 2);
        due("21: its own", x.why(2, 1), 0);
        due("21: LEGAL", x.why(0, 2), 0);
        due("21: no such", x.why(0, 4), -1);
        due("21: no such", x.why(-1, 0), -1);
        counts();
    }

    private static void counts() {
        OptionLattice x = usual();
        x.keeps(1, true);
        x.column(0);
        x.sign(0);
        int[] all = {4, 3, 6, 32, 6, 2, 2, 2, 4, 1};
        for (int what = 0; what < 10; what++) {
            due("41: what " + what, x.count(what), all[what]);
        }
        due("41: what -1", x.count(-1), -1);
        due("41: what 10", x.count(10), -1);
        due("41: what least", x.count(LEAST), -1);
        x.opens(1, 4, 1);
        due("41: TEACHERS with SECTIONS that are OUT", x.count(9), 17);
        due("42: row(0)", x.row(0), 1);
        due("42: row(1)", x.row(1), 1);
        CHECKS.due("42: row(2)", throwsAt(x, 2), true);
        CHECKS.due("42: row(-1)", throwsAt(x, -1), true);
        CHECKS.due("42: row(least)", throwsAt(x, LEAST), true);
        CHECKS.due("42: row(greatest)", throwsAt(x, GREATEST), true);
        CHECKS.due("42: at first", throwsAt(new OptionLattice(), 0), true);
    }

    // ---- promises 22 to 27

    private static void whoFits() {
        OptionLattice x = usual();
        due("22: three", x.fits(), 3);
        CHECKS.dueRow("22", x, 25);
        due("23: one", x.ways(0), 1);
        CHECKS.dueRow("23", x, 0, 1);
        due("23: two", x.ways(3), 2);
        CHECKS.dueRow("23", x, 0, 2);
        due("23: none", x.ways(1), 0);
        CHECKS.dueRow("23", x);
        due("23: no such", x.ways(6), -1);
        due("24: 1 and 2", x.crowd(2), 6);
        CHECKS.dueRow("24", x, 2, 2);
        due("24: 4 alone", x.crowd(5), 16);
        CHECKS.dueRow("24", x, 1, 0);
        due("24: FITS", x.crowd(0), -2);
        due("24: no such", x.crowd(6), -1);
        manyWays();
        crowds();
        due("25: 0", x.sets(0), -1);
        due("25: 7", x.sets(7), -1);
        due("25: pairs", x.sets(2), 5);
        CHECKS.dueRow("25", x, 45, 6);
        due("25: sixes", x.sets(6), 0);
        CHECKS.dueRow("25", x, 210, 63);
        due("26: both", x.both(2, 1), 6);
        CHECKS.dueRow("26", x, 2, 2);
        due("26: both fit", x.both(0, 3), 24);
        CHECKS.dueRow("26", x, 2, 0);
        due("26: one", x.both(3, 3), -1);
        due("26: no such", x.both(3, 10), -1);
        due("26: no such", x.both(-1, 3), -1);
        due("26: nobody", x.both(8, 9), 0);
        CHECKS.dueRow("26", x, 0, 0);
        clashes();
    }

    private static void manyWays() {
        OptionLattice x = new OptionLattice();
        Checks.desk(x, "6x9");
        for (int s = 0; s < 2; s++) {
            for (int c = 0; c < 6; c++) {
                x.puts(x.opens(s, c, 1), (c + s) % 6);
            }
        }
        Checks.pupils(x, "01,1");
        due("23: 6 times 5", x.ways(0), 30);
        CHECKS.dueRow("23", x, 0, 1);
        x.opens(1, 9, 1);
        due("23: a second SECTION in a COLUMN", x.puts(12, 0), 2);
        due("23: makes no new WAY", x.ways(1), 6);
        CHECKS.dueRow("23", x, 0);
        due("25: all have a WAY", x.sets(1), 2);
        x = Checks.made("3x9;2t0z1@0;4t1z1@0;4t2z1@2;7t3z1@0;7t4z1@1", "247");
        due("23: the least SUBJECT first", x.ways(0), 1);
        CHECKS.dueRow("23", x, 0, 2, 1);
        sixOfSix();
        StringBuilder all = new StringBuilder("2x9");
        for (int s = 0; s < 10; s++) {
            all.append(';').append(s).append('t').append(s).append("z1@").append(s % 2);
        }
        Checks.desk(x, all.toString());
        due("25: every SUBJECT", x.sets(1), 10);
        CHECKS.dueRow("25", x, 10, -1);
        due("25: even with odd", x.sets(2), 25);
        CHECKS.dueRow("25", x, 45, 5);
        due("25: more than COLUMNS", x.sets(3), 0);
        CHECKS.dueRow("25", x, 120, 7);
    }

    private static void sixOfSix() {
        StringBuilder ring = new StringBuilder("6x9");
        for (int s = 0; s < 6; s++) {
            ring.append(';').append(s).append('t').append(s).append("z1@").append(s);
            ring.append(';').append(s).append('t').append(s).append("z1@").append((s + 1) % 6);
        }
        OptionLattice x = Checks.made(ring.toString(), "012345,01234");
        due("23: all COLUMNS, one way round or the other", x.ways(0), 2);
        CHECKS.dueRow("23", x, 0, 1, 2, 3, 4, 5);
        due("23: one COLUMN is free", x.ways(1), 6);
        CHECKS.dueRow("23", x, 0, 1, 2, 3, 4);
        due("23: asked again", x.ways(0), 2);
        due("25: sixes", x.sets(6), 1);
        CHECKS.dueRow("25", x, 210, 95);
        due("37: SEATS for one", x.seated(false), 2);
        due("38: COLUMN 0 for the first", x.sits(0), 1);
        due("38: COLUMN 1 for the second", x.sits(1), 2);
        x.bars(9, 0, true);
        due("33: FITS", x.cures(0), 0);
        x.takes(0);
        due("23: round the other way alone", x.ways(0), 1);
        CHECKS.dueRow("23", x, 1, 2, 3, 4, 5, 0);
    }

    private static void crowds() {
        OptionLattice x = Checks.made("4x9;0t0z1@0;1t1z1@0;1t2z1@1;2t3z1@1;3t4z1@2;4t5z1@2", "012,01234,0123,1234");
        due("24: three in two", x.crowd(0), 7);
        CHECKS.dueRow("24", x, 3, 3);
        due("24: fewer, though of greater bits", x.crowd(1), 24);
        CHECKS.dueRow("24", x, 2, 4);
        due("24: three of four", x.crowd(2), 7);
        due("24: two of four", x.crowd(3), 24);
        x.takes(1);
        x.takes(2);
        due("24: one without SECTIONS", x.crowd(0), 2);
        x.takes(0);
        due("24: of two such the least bits", x.crowd(0), 1);
        CHECKS.dueRow("24", x, 1, 0);
    }

    private static void clashes() {
        OptionLattice x = usual();
        due("27: 1 and 2", x.clash(), 12);
        CHECKS.dueRow("27", x, 2, 1);
        x = Checks.made("2x9;0t0z1@0;1t1z1@0;2t2z1@1;3t3z1@1;3t4z1", "01,23,2,3");
        due("27: of equal ones the first", x.clash(), 1);
        CHECKS.dueRow("27", x, 1, 0);
        x.chooses(2, 3, true);
        due("27: most, one being OUT once more", x.clash(), 23);
        CHECKS.dueRow("27", x, 2, 1);
        x.puts(4, 0);
        due("27: not in one COLUMN alone", x.clash(), 1);
        x.chooses(0, 1, false);
        due("27: nobody", x.clash(), -2);
        due("27: none chose", new OptionLattice().clash(), -2);
    }

    // ---- promises 28 to 32, 34 to 36

    private static void moves() {
        OptionLattice x = usual();
        due("28: two more", x.gain(2, 2), 2);
        CHECKS.dueRow("28", x, 6, 0);
        due("28: one less", x.gain(0, 2), -1);
        CHECKS.dueRow("28", x, 0, 16);
        due("28: none", x.gain(4, 3), 0);
        CHECKS.dueRow("28", x, 0, 0);
        due("28: is there", x.gain(2, 1), -1000);
        due("28: is not LEGAL", x.gain(5, 1), -1000);
        due("28: no such", x.gain(6, 0), -1);
        due("28: no such", x.gain(0, 4), -1);
        due("28: nothing moved", x.section(2, 3), 1);
        due("29: 1 to COLUMN 2", x.best(), 202);
        CHECKS.dueRow("29", x, 5);
        due("29: nothing moved", x.section(2, 3), 1);
        due("30: 0", x.climbs(0), -1);
        due("30: 31", x.climbs(31), -1);
        due("30: once", x.climbs(1), 1);
        CHECKS.dueRow("30", x, 5);
        due("30: once more, then none is better", x.climbs(30), 1);
        CHECKS.dueRow("30", x, 6);
        due("30: 1 is in COLUMN 2", x.section(2, 3), 2);
        due("30: 4 is in COLUMN 0", x.section(5, 3), 0);
        due("30: none", x.climbs(30), 0);
        CHECKS.dueRow("30", x, 6);
        due("29: none", x.best(), -2);
        held();
        exchanges();
        more();
    }

    private static void held() {
        String desk = "2x9;0t0z1@0;1t1z1@1;2t2z1@1";
        OptionLattice x = Checks.made(desk, "01,12,12");
        due("29: 2 to COLUMN 0, by which more FIT than by 1", x.best(), 200);
        CHECKS.dueRow("29", x, 3);
        x = Checks.made(desk, "01,12,12,02");
        due("29: of equal ones the first", x.best(), 100);
        CHECKS.dueRow("29", x, 3);
        x.keeps(0, true);
        due("29: PUPIL 0 is HELD, so 2 goes", x.best(), 200);
        CHECKS.dueRow("29", x, 3);
        x.keeps(3, true);
        due("29: both are HELD", x.best(), -2);
        due("30: nor is it done", x.climbs(5), 0);
        CHECKS.dueRow("30", x, 2);
        due("33: nor cured", x.cures(1), -2);
        x.keeps(1, true);
        x.keeps(3, false);
        due("29: KEPT ones who do not FIT lose nothing", x.best(), 200);
        due("9: puts() holds nobody", x.puts(1, 0), 3);
        due("9: PUPIL 0 lost", x.pupil(0), 3);
        CHECKS.dueRow("9", x, 0, 1);
    }

    private static void exchanges() {
        OptionLattice x = usual();
        due("31: 2 with 3", x.exchange(), 304);
        CHECKS.dueRow("31", x, 5);
        due("31: nothing moved", x.section(3, 3), 1);
        x = Checks.made("2x2;0t0z1@0;1t1z1@0;2t2z1@1;3t3z1@1;4t4z1", "01,02");
        due("31: of equal ones the first", x.exchange(), 2);
        CHECKS.dueRow("31", x, 2);
        x = Checks.made("2x2;0t0z1@0;1t1z1@0;2t2z1@1;3t3z1@1", "01,23");
        due("31: 0 with 2", x.exchange(), 2);
        CHECKS.dueRow("31", x, 2);
        x.bars(2, 0, true);
        due("31: as BARS let them", x.exchange(), 3);
        x.bars(3, 0, true);
        due("31: none", x.exchange(), -2);
        x = Checks.made("2x2;0t0z1@0;1t1z1@0;2t2z1@1;3t3z1@1", "01,23,03");
        x.keeps(2, true);
        due("31: with 3 being HELD, the pair that leaves 0 and 3 apart", x.exchange(), 3);
        CHECKS.dueRow("31", x, 3);
        x = Checks.made("2x2;0t0z1@0;1t1z1@0;2t2z1", "01");
        due("31: none that is OUT", x.exchange(), -2);
    }

    private static void more() {
        OptionLattice x = usual();
        due("32: 4 once more", x.splits(4, 4), 0);
        CHECKS.dueRow("32", x, 4);
        due("32: TEACHER 0 is in 0 and 1", x.splits(4, 0), 2);
        CHECKS.dueRow("32", x, 4);
        due("32: no such", x.splits(10, 0), -1);
        due("32: no such", x.splits(0, -1), -1);
        due("32: no SECTION more", x.count(2), 6);
        due("32: COLUMNS as before", x.subject(4), 0);
        x.bars(0, 2, true);
        x.bars(0, 3, true);
        due("32: none LEGAL", x.splits(4, 0), -2);
        due("34: four", x.instead(1), 4);
        CHECKS.dueRow("34", x, 10);
        due("34: FITS", x.instead(0), -2);
        due("34: no such", x.instead(6), -1);
        due("35: the second of 0, and 4, which is OUT", x.spare(), 0b100010);
        CHECKS.dueRow("35", x, 1);
        x = Checks.made("1x9;0t0z1@0", "12");
        due("34: none", x.instead(0), 0);
        CHECKS.dueRow("34", x, -1);
        x = Checks.made("2x9;0t0z1@0;0t1z1@0;1t2z1@1;2t3z1", "01");
        due("35: either of two, and who is OUT", x.spare(), 0b1011);
        CHECKS.dueRow("35", x, 1);
        due("35: no SECTION went", x.count(2), 4);
        lays();
    }

    private static void lays() {
        OptionLattice x = usual();
        due("36: all", x.lays(), 6);
        CHECKS.dueRow("36", x, 6);
        int[] columns = {0, 1, 0, 2, 0, 1};
        for (int i = 0; i < 6; i++) {
            due("36: COLUMN of " + i, x.section(i, 3), columns[i]);
        }
        x = Checks.made("1x1;0t0z1@0;1t1z1;2t2z1", "1,2");
        due("36: one ROOM, for the first of those that most chose", x.lays(), 1);
        CHECKS.dueRow("36", x, 1);
        due("36: OUT ones", x.count(3), 0b101);
        x = Checks.made("2x9;b001;1t0z1;1t1z1@1;0t1z1@0", "01,1");
        due("36: by numbers, as BARS let them", x.lays(), 2);
        due("36: OUT ones", x.count(3), 0b001);
        due("36: COLUMN of 1", x.section(1, 3), 0);
        due("36: COLUMN of 2", x.section(2, 3), 1);
        x = Checks.made("2x1;1t0z1;0t1z1;1t2z1", "0,1");
        due("36: equal SUBJECTS by numbers of SECTIONS", x.lays(), 2);
        due("36: the third is OUT", x.count(3), 0b100);
    }

    // ---- promise 33

    private static void cures() {
        OptionLattice x = usual();
        due("33: no such", x.cures(6), -1);
        due("33: FITS", x.cures(0), 0);
        CHECKS.dueRow("33", x);
        due("33: by one", x.cures(1), 1);
        CHECKS.dueRow("33", x, 200);
        due("33: by one that is OUT", x.cures(5), 1);
        CHECKS.dueRow("33", x, 500);
        due("33: nothing moved", x.section(5, 3), -2);
        x = Checks.made("2x1;0t0z1@0;1t1z1@1;2t2z1", "02");
        due("33: no ROOM", x.cures(0), -2);
        x = Checks.made("3x1;0t0z1@0;1t1z1@1;2t2z1;b90", "02");
        due("33: COLUMN 2 is free", x.cures(0), 1);
        CHECKS.dueRow("33", x, 202);
        x = Checks.made("3x1;b202;0t0z1@0;1t1z1@1;2t2z1", "02");
        due("33: first one makes room, then the other comes", x.cures(0), 2);
        CHECKS.dueRow("33", x, 102, 201);
        due("33: nothing moved", x.section(1, 3), 1);
        x = Checks.made("3x1;b202;b12;0t0z1@0;1t1z1@1;2t2z1", "02");
        due("33: by three, but not by two", x.cures(0), -2);
        x = Checks.made("3x1;b22;b12;0t0z1@0;1t1z1@1;2t2z1", "02");
        due("33: 0 has to make room", x.cures(0), 2);
        CHECKS.dueRow("33", x, 2, 200);
        x = Checks.made("3x9;b12;b22;0t0z1@0;1t1z1@0;2t2z1@1", "01,12");
        x.keeps(1, true);
        due("33: 1 goes to 1 but then 2 has to make room: 0 goes instead", x.cures(0), 1);
        CHECKS.dueRow("33", x, 1);
        x.bars(0, 1, true);
        x.bars(0, 2, true);
        due("33: HELD at last, not between", x.cures(0), 2);
        CHECKS.dueRow("33", x, 101, 200);
    }

    // ---- promises 37 to 40

    private static void seats() {
        OptionLattice x = Checks.made("1x1;0t0z1@0", "0,0");
        due("37: by numbers", x.seated(false), 1);
        CHECKS.dueRow("37", x, 1);
        due("37: from the last one on", x.seated(true), 1);
        CHECKS.dueRow("37", x, 2);
        due("38: PUPIL 0", x.sits(0), 1);
        CHECKS.dueRow("38", x, 0);
        due("38: no such", x.sits(1), -1);
        due("39: PUPIL 1", x.lacking(), 2);
        CHECKS.dueRow("39", x, 1, 0);
        due("40: one", x.wants(0), 1);
        due("40: no such", x.wants(1), -1);
        due("40: SEATS as before", x.section(0, 2), 1);
        x = Checks.made("2x9;0t0z1@0;0t1z2@0;0t2z1@1;1t3z9@1;1t4z1@0", "01,0,0,0,01,1");
        due("37: all but the one who needs COLUMN 0 or a SEAT there", x.seated(false), 5);
        CHECKS.dueRow("37", x, 0b101111);
        due("38: the first with a SEAT", x.sits(0), 0b000001);
        due("38: then the second", x.sits(1), 0b000110);
        CHECKS.dueRow("38", x, 0);
        due("38: then COLUMN 1", x.sits(2), 0b001000);
        due("38: 1 in the first COLUMN", x.sits(4), 0b100000);
        CHECKS.dueRow("38", x, 0);
        due("38: 1 in the other", x.sits(3), 0b000001);
        CHECKS.dueRow("38", x, 8);
        due("39: PUPIL 4 lacks 0", x.lacking(), 0b010000);
        CHECKS.dueRow("39", x, 4, 0);
        due("40: one SEAT more in 0", x.wants(0), 1);
        due("37: back", x.seated(true), 5);
        CHECKS.dueRow("37", x, 0b111110);
        moreSeats();
    }

    private static void moreSeats() {
        OptionLattice x = Checks.made("2x9;0t0z1@0;1t1z1@1;1t2z1@0;0t3z1", "01,1,0");
        due("37: SEATS of those that are OUT do not count", x.seated(false), 2);
        CHECKS.dueRow("37", x, 3);
        due("39: 0 is full", x.lacking(), 4);
        CHECKS.dueRow("39", x, 2, 0);
        due("40: one", x.wants(0), 1);
        due("40: not by SEATS of another", x.wants(1), -2);
        due("40: not by one that is OUT", x.wants(3), -2);
        due("38: nobody sits OUT", x.sits(3), 0);
        CHECKS.dueRow("38", x, 1);
        x = Checks.made("2x9;0t0z1@0;0t1z1@1;1t2z1@1;1t3z9@0", "1,0,01");
        due("37: SEATS are left, but in one COLUMN", x.seated(false), 3);
        x = Checks.made("2x9;0t0z1@0;0t1z1@1;1t2z9@1", "1,0,01");
        due("37: 0 is left in COLUMN 1 alone, where 1 is", x.seated(false), 2);
        due("39: no SUBJECT is full", x.lacking(), 4);
        CHECKS.dueRow("39", x, 2, -1);
        due("40: nobody lacks", Checks.made("1x1;0t0z1@0", "0,1").wants(0), 0);
        StringBuilder many = new StringBuilder("0");
        for (int i = 1; i < 24; i++) {
            many.append(",0");
        }
        due("40: 23 more", Checks.made("1x1;0t0z1@0", many.toString()).wants(0), 23);
        due("39: nobody", Checks.made("1x1;0t0z30@0", many.toString()).lacking(), 0);
    }

    // ---- term 2: when the ROW stays

    private static void rowStays() {
        OptionLattice x = usual();
        x.subject(0);
        x.section(0, 0);
        x.puts(2, 2);
        x.puts(2, 1);
        x.takes(0);
        x.puts(0, 0);
        x.swaps(0, 1);
        x.swaps(0, 1);
        x.seats(0, 2);
        x.opens(0, 0, 1);
        x.closes(6);
        x.rooms(3);
        x.bars(9, 0, true);
        x.chooses(0, 9, true);
        x.chooses(0, 9, false);
        x.keeps(0, true);
        x.why(0, 1);
        x.wants(0);
        x.count(0);
        x.column(4);
        x.pupil(-1);
        x.legal(6);
        x.ways(6);
        x.crowd(0);
        x.sets(0);
        x.both(0, 0);
        x.gain(2, 1);
        x.climbs(0);
        x.splits(10, 0);
        x.instead(0);
        x.sits(6);
        x.sign(0);
        x.end(0);
        x.desk();
        CHECKS.dueRow("2: the ROW stays", x, 2, 4, 3);
        Checks.pupils(x, "0");
        Checks.desk(x, "1x1");
        x.best();
        x.exchange();
        x.clash();
        CHECKS.dueRow("2: the ROW stays with -2 and with texts", x, 2, 4, 3);
    }
}
