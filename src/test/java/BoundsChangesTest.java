/** Boundary by boundary: what is told call by call (promises 6 to 15). */
public final class BoundsChangesTest {
    private static final int LEAST = Integer.MIN_VALUE;
    private static final int GREATEST = Integer.MAX_VALUE;
    private static final Checks CHECKS = new Checks();
    private static final Fixture USUAL = Fixture.usual();
    private static final String[] LINES = Fixture.DESK.split(";");

    private BoundsChangesTest() {
    }

    public static void main(String[] args) {
        opensUpToSixteen();
        opensWithSeats();
        closesEachOne();
        closesTheOnlyOne();
        seatsOneToThirty();
        putsWhereItIs();
        putsWhereItIsNotLegal();
        putsHowManyFit();
        takesWhatIsOut();
        takesHowManyFit();
        swapsWhereTheOtherOneIs();
        swapsWhereOneIsNotLegal();
        swapsTheOtherOneBeingGone();
        barsThatAreSo();
        barsWhereASectionIs();
        barsOfAllColumns();
        roomsOneToNine();
        roomsForThoseThatAreThere();
        choosesWhatIsSo();
        choosesOneToSix();
        keepsWhatIsSo();
        keepsUpTo24();
        CHECKS.close("BoundsChangesTest");
    }

    /** The usual desk with one line (0: n and ROOMS) told in another way, or left out if it is empty. */
    private static Fixture with(int line, String other) {
        StringBuilder t = new StringBuilder();
        for (int i = 0; i < LINES.length; i++) {
            String one = i == line ? other : LINES[i];
            t.append(i == 0 || one.isEmpty() ? "" : ";").append(one);
        }
        return new Fixture(t.toString(), Fixture.PUPILS, 1, 3);
    }

    private static Fixture more(String lines) {
        return new Fixture(Fixture.DESK + lines, Fixture.PUPILS, 1, 3);
    }

    // ---- promise 6

    private static void opensUpToSixteen() {
        OptionLattice x = new OptionLattice();
        for (int i = 0; i < 16; i++) {
            CHECKS.due("6: its number", x.opens(i % 10, 9 - i % 10, 1 + i), i);
            CHECKS.due("6: SECTIONS", x.count(2), i + 1);
            CHECKS.due("6: SUBJECT", x.section(i, 0), i % 10);
            CHECKS.due("6: TEACHER", x.section(i, 1), 9 - i % 10);
            CHECKS.due("6: SEATS", x.section(i, 2), 1 + i);
            CHECKS.due("6: OUT", x.section(i, 3), -2);
        }
        CHECKS.due("6: all are OUT", x.count(3), 65535);
        CHECKS.due("6: there are 16", x.opens(0, 0, 1), -2);
        CHECKS.due("6: 16 stay", x.count(2), 16);
        CHECKS.due("7: one goes", x.closes(3), 15);
        CHECKS.due("6: there are 15", x.opens(8, 7, 30), 15);
        CHECKS.due("6: its SUBJECT", x.section(15, 0), 8);
        CHECKS.due("6: there are 16", x.opens(0, 0, 1), -2);
        CHECKS.leaves("6: there are 16", Fixture.full(), y -> y.opens(9, 9, 30), -2);
    }

    private static void opensWithSeats() {
        CHECKS.changes("6: SEATS 1", USUAL, x -> x.opens(9, 8, 1), 6, more(";9t8z1"));
        CHECKS.changes("6: SEATS 30", USUAL, x -> x.opens(0, 0, 30), 6, more(";0t0z30"));
        for (int seats : new int[] {LEAST, -30, -1, 0, 31, 32, 257, GREATEST}) {
            CHECKS.leaves("6: SEATS " + seats, USUAL, x -> x.opens(0, 0, seats), -1);
        }
        CHECKS.changes("6: the first of all", new Fixture("4x5", ""), x -> x.opens(9, 9, 30), 0, new Fixture("4x5;9t9z30", ""));
    }

    // ---- promise 7

    private static void closesEachOne() {
        for (int s = 0; s < 6; s++) {
            int section = s;
            CHECKS.changes("7: closes(" + s + ")", USUAL, x -> x.closes(section), 5, with(1 + s, ""));
        }
        CHECKS.leaves("7: no such", USUAL, x -> x.closes(6), -1);
        CHECKS.leaves("7: no such", USUAL, x -> x.closes(-1), -1);
        OptionLattice x = Fixture.full().get();
        CHECKS.due("7: of 16 the last", x.closes(15), 15);
        CHECKS.due("7: of 15 the first", x.closes(0), 14);
        for (int s = 0; s < 14; s++) {
            CHECKS.due("7: a number less", x.section(s, 0) * 10 + x.section(s, 3), (s + 1) % 10 * 10 + (s + 1) % 6);
        }
        CHECKS.due("7: none behind them", x.section(14, 0), -1);
    }

    private static void closesTheOnlyOne() {
        CHECKS.changes("7: none is left", new Fixture("4x5;3t2z1@0", "3", 0), x -> x.closes(0), 0, new Fixture("4x5", "3", 0));
        OptionLattice x = Checks.made("4x5;3t2z1@0", "3");
        x.closes(0);
        CHECKS.due("7: none is left", x.closes(0), -1);
        CHECKS.due("7: nobody FITS", x.fits(), 0);
        CHECKS.due("7: no COLUMN of it", x.subject(3), 0);
        CHECKS.due("7: nothing is there", x.column(0), 0);
        CHECKS.due("7: nobody is taught there", x.bars(2, 0, true), 1);
    }

    // ---- promise 8

    private static void seatsOneToThirty() {
        CHECKS.changes("8: 1", USUAL, x -> x.seats(0, 1), 2, with(1, "0t0z1@0"));
        CHECKS.changes("8: 30", USUAL, x -> x.seats(5, 30), 1, with(6, "4t4z30"));
        CHECKS.leaves("8: as they were", USUAL, x -> x.seats(4, 3), 3);
        for (int n : new int[] {LEAST, -30, -1, 0, 31, 32, 257, GREATEST}) {
            CHECKS.leaves("8: seats(0, " + n + ")", USUAL, x -> x.seats(0, n), -1);
            CHECKS.leaves("8: seats(6, " + n + ")", USUAL, x -> x.seats(6, n), -1);
        }
        OptionLattice x = USUAL.get();
        int were = 1;
        for (int n = 1; n <= 30; n++) {
            CHECKS.due("8: what they were", x.seats(1, n), were);
            CHECKS.due("8: what they are", x.section(1, 2), n);
            were = n;
        }
    }

    // ---- promise 9

    private static void putsWhereItIs() {
        CHECKS.leaves("9: it is there", USUAL, x -> x.puts(0, 0), -2);
        CHECKS.leaves("9: it is there, in a full COLUMN", USUAL, x -> x.puts(3, 1), -2);
        CHECKS.changes("9: it is elsewhere", USUAL, x -> x.puts(0, 3), 3, with(1, "0t0z2@3"));
        OptionLattice x = USUAL.get();
        x.puts(0, 3);
        CHECKS.due("9: now it is there", x.puts(0, 3), -2);
        CHECKS.due("9: and may come back", x.puts(0, 0), 3);
    }

    private static void putsWhereItIsNotLegal() {
        CHECKS.leaves("9: its TEACHER has another one there", USUAL, x -> x.puts(1, 0), -3);
        CHECKS.leaves("9: and ROOMS", USUAL, x -> x.puts(0, 1), -3);
        CHECKS.leaves("9: ROOMS", USUAL, x -> x.puts(5, 1), -3);
        CHECKS.leaves("9: BARS", more(";b52;5t5z1"), x -> x.puts(6, 2), -3);
        CHECKS.changes("9: no BARS", more(";b52;5t5z1"), x -> x.puts(6, 3), 3, more(";b52;5t5z1@3"));
        OptionLattice x = USUAL.get();
        x.takes(2);
        CHECKS.due("9: a ROOM is free", x.puts(5, 1), 2);
        CHECKS.due("9: and is not any more", x.puts(2, 1), -3);
        x = USUAL.get();
        x.takes(1);
        CHECKS.due("9: its TEACHER has none there", x.puts(0, 1), 1);
    }

    private static void putsHowManyFit() {
        CHECKS.changes("9: more", USUAL, x -> x.puts(2, 2), 5, with(3, "1t1z2@2"));
        CHECKS.changes("9: of who was OUT", USUAL, x -> x.puts(5, 0), 4, with(6, "4t4z1@0"));
        CHECKS.changes("9: fewer, KEPT or not", USUAL, x -> x.puts(4, 0), 2, with(5, "3t3z3@0"));
        CHECKS.changes("9: nobody there", new Fixture("1x1;0t0z1", ""), x -> x.puts(0, 0), 0, new Fixture("1x1;0t0z1@0", ""));
        Fixture many = new Fixture("1x1;0t0z1", Fixture.pupils(24, "0"));
        CHECKS.changes("9: all 24", many, x -> x.puts(0, 0), 24, new Fixture("1x1;0t0z1@0", Fixture.pupils(24, "0")));
        Fixture kept = new Fixture("2x9;0t0z1@0;1t1z1@1", "01", 0);
        CHECKS.changes("9: a KEPT one loses", kept, x -> x.puts(1, 0), 0, new Fixture("2x9;0t0z1@0;1t1z1@0", "01", 0));
    }

    // ---- promise 10

    private static void takesWhatIsOut() {
        CHECKS.leaves("10: it is OUT", USUAL, x -> x.takes(5), -2);
        OptionLattice x = USUAL.get();
        CHECKS.due("10: it is not", x.takes(4), 1);
        CHECKS.due("10: it is now", x.takes(4), -2);
        x.opens(0, 0, 1);
        CHECKS.due("10: so is a new one", x.takes(6), -2);
    }

    private static void takesHowManyFit() {
        CHECKS.changes("10: a KEPT one loses", USUAL, x -> x.takes(4), 1, with(5, "3t3z3"));
        CHECKS.changes("10: nobody loses", USUAL, x -> x.takes(1), 3, with(2, "0t0z1"));
        Fixture many = new Fixture("1x1;0t0z1@0", Fixture.pupils(24, "0"));
        CHECKS.changes("10: all 24 lose", many, x -> x.takes(0), 0, new Fixture("1x1;0t0z1", Fixture.pupils(24, "0")));
        CHECKS.changes("10: one of two there", new Fixture("1x2;0t0z1@0;0t1z1@0", "0"), x -> x.takes(1), 1,
            new Fixture("1x2;0t0z1@0;0t1z1", "0"));
    }

    // ---- promise 11

    private static void swapsWhereTheOtherOneIs() {
        CHECKS.leaves("11: in one COLUMN", USUAL, x -> x.swaps(2, 3), -2);
        CHECKS.leaves("11: a SECTION with itself", USUAL, x -> x.swaps(0, 0), -2);
        CHECKS.leaves("11: OUT with itself", USUAL, x -> x.swaps(5, 5), -2);
        CHECKS.leaves("11: both OUT", more(";5t5z1"), x -> x.swaps(5, 6), -2);
        Fixture apart = new Fixture("2x1;0t0z1@0;1t1z1@1", "0,1,01", 2);
        Fixture other = new Fixture("2x1;0t0z1@1;1t1z1@0", "0,1,01", 2);
        CHECKS.changes("11: apart, in full COLUMNS", apart, x -> x.swaps(0, 1), 3, other);
        CHECKS.changes("11: the other way round", apart, x -> x.swaps(1, 0), 3, other);
        CHECKS.leaves("11: twice", apart, x -> x.swaps(0, 1) == 3 ? x.swaps(0, 1) : 0, 3);
    }

    private static void swapsWhereOneIsNotLegal() {
        Fixture barred = new Fixture("3x9;b12;0t0z1@2;1t1z1@0", "01");
        CHECKS.leaves("11: BARS of the second", barred, x -> x.swaps(0, 1), -3);
        CHECKS.leaves("11: BARS of the first", barred, x -> x.swaps(1, 0), -3);
        Fixture taught = new Fixture("3x9;0t0z1@0;1t1z1@1;2t0z1@1", "01");
        CHECKS.leaves("11: TEACHER of the first", taught, x -> x.swaps(0, 1), -3);
        CHECKS.leaves("11: TEACHER of the second", taught, x -> x.swaps(1, 0), -3);
        Fixture out = new Fixture("2x1;b10;0t0z1@0;1t1z1", "1");
        CHECKS.leaves("11: an OUT one with BARS", out, x -> x.swaps(1, 0), -3);
        CHECKS.leaves("11: with an OUT one with BARS", out, x -> x.swaps(0, 1), -3);
        Fixture busy = new Fixture("2x2;0t0z1@0;1t1z1@0;2t0z1", "1");
        CHECKS.leaves("11: an OUT one whose TEACHER is there", busy, x -> x.swaps(2, 1), -3);
        CHECKS.leaves("11: with an OUT one whose TEACHER is there", busy, x -> x.swaps(1, 2), -3);
    }

    private static void swapsTheOtherOneBeingGone() {
        Fixture full = new Fixture("1x1;0t0z1@0;1t1z1", "0,1,1");
        Fixture then = new Fixture("1x1;0t0z1;1t1z1@0", "0,1,1");
        CHECKS.changes("11: the only ROOM", full, x -> x.swaps(0, 1), 2, then);
        CHECKS.changes("11: the only ROOM, the other way round", full, x -> x.swaps(1, 0), 2, then);
        Fixture one = new Fixture("1x1;0t0z1@0;1t0z1", "0,1,1");
        CHECKS.changes("11: of one TEACHER", one, x -> x.swaps(0, 1), 2, new Fixture("1x1;0t0z1;1t0z1@0", "0,1,1"));
        Fixture both = new Fixture("2x9;0t0z1@0;1t0z1@1", "0,1,01");
        CHECKS.changes("11: of one TEACHER, in two COLUMNS", both, x -> x.swaps(0, 1), 3,
            new Fixture("2x9;0t0z1@1;1t0z1@0", "0,1,01"));
        CHECKS.changes("11: OUT is free to all", new Fixture("2x1;b01;0t0z1@0;1t1z1", "1"), x -> x.swaps(0, 1), 1,
            new Fixture("2x1;b01;0t0z1;1t1z1@0", "1"));
        CHECKS.changes("11: a KEPT one loses", new Fixture("1x1;0t0z1@0;1t1z1", "0", 0), x -> x.swaps(0, 1), 0,
            new Fixture("1x1;0t0z1;1t1z1@0", "0", 0));
    }

    // ---- promise 12

    private static void barsThatAreSo() {
        Fixture barred = more(";b913");
        CHECKS.leaves("12: is so", barred, x -> x.bars(9, 1, true), -2);
        CHECKS.leaves("12: is so", barred, x -> x.bars(9, 3, true), -2);
        CHECKS.leaves("12: is not so", barred, x -> x.bars(9, 0, false), -2);
        CHECKS.leaves("12: is not so, of another", barred, x -> x.bars(8, 1, false), -2);
        CHECKS.changes("12: comes", barred, x -> x.bars(9, 0, true), 0b1011, more(";b9013"));
        CHECKS.changes("12: goes", barred, x -> x.bars(9, 1, false), 0b1000, more(";b93"));
        CHECKS.changes("12: the only one goes", more(";b93"), x -> x.bars(9, 3, false), 0, USUAL);
    }

    private static void barsWhereASectionIs() {
        CHECKS.leaves("12: a SECTION of it is there", USUAL, x -> x.bars(0, 0, true), -3);
        CHECKS.leaves("12: a SECTION of it is there", USUAL, x -> x.bars(0, 1, true), -3);
        CHECKS.leaves("12: a SECTION of it is there", USUAL, x -> x.bars(3, 2, true), -3);
        OptionLattice x = USUAL.get();
        CHECKS.due("12: those of others are", x.bars(9, 1, true), 2);
        CHECKS.due("12: one that is OUT", x.bars(4, 0, true), 1);
        CHECKS.due("10: taken", x.takes(1), 3);
        CHECKS.due("12: it was there", x.bars(0, 1, true), 2);
        CHECKS.due("9: and may not again", x.puts(1, 1), -3);
        CHECKS.due("12: goes", x.bars(0, 1, false), 0);
        CHECKS.due("9: and may again", x.puts(1, 1), 3);
    }

    private static void barsOfAllColumns() {
        OptionLattice x = Checks.made("6x9;0t9z1", "0");
        for (int column = 5; column >= 0; column--) {
            CHECKS.due("12: as bits", x.bars(9, column, true), 64 - (1 << column));
            CHECKS.due("12: LEGAL ones left", x.legal(0), (1 << column) - 1);
        }
        for (int column = 0; column < 6; column++) {
            CHECKS.due("12: as bits", x.bars(9, column, false), 63 & -(2 << column));
        }
        for (int teacher = 0; teacher < 9; teacher++) {
            CHECKS.due("12: none of another", x.bars(teacher, 5, false), -2);
        }
    }

    // ---- promise 13

    private static void roomsOneToNine() {
        for (int m : new int[] {LEAST, -9, -1, 0, 10, 11, 265, GREATEST}) {
            CHECKS.leaves("13: rooms(" + m + ")", USUAL, x -> x.rooms(m), -1);
            CHECKS.leaves("13: rooms(" + m + ") of none", new Fixture("4x5", ""), x -> x.rooms(m), -1);
        }
        OptionLattice x = new OptionLattice();
        int were = 5;
        for (int m = 1; m <= 9; m++) {
            CHECKS.due("13: what they were", x.rooms(m), were);
            CHECKS.due("13: what they are", x.count(1), m);
            were = m;
        }
        CHECKS.leaves("13: as they were", USUAL, y -> y.rooms(3), 3);
        CHECKS.changes("13: 9", USUAL, y -> y.rooms(9), 3, with(0, "4x9"));
    }

    private static void roomsForThoseThatAreThere() {
        CHECKS.leaves("13: three are in COLUMN 1", USUAL, x -> x.rooms(2), -3);
        CHECKS.leaves("13: three are in COLUMN 1", USUAL, x -> x.rooms(1), -3);
        CHECKS.changes("13: as many as are there", with(0, "4x4"), x -> x.rooms(3), 4, USUAL);
        OptionLattice x = USUAL.get();
        x.takes(1);
        CHECKS.due("13: two are", x.rooms(2), 3);
        CHECKS.due("13: which are not fewer", x.rooms(1), -3);
        CHECKS.due("13: they are 2", x.count(1), 2);
        CHECKS.leaves("13: in the last COLUMN", new Fixture("6x2;0t0z1@5;0t1z1@5", ""), y -> y.rooms(1), -3);
        CHECKS.leaves("13: in the first COLUMN", new Fixture("6x2;0t0z1@0;0t1z1@0", ""), y -> y.rooms(1), -3);
        CHECKS.changes("13: OUT ones need none", new Fixture("1x2;0t0z1@0;0t1z1;0t2z1", ""), y -> y.rooms(1), 2,
            new Fixture("1x1;0t0z1@0;0t1z1;0t2z1", ""));
    }

    // ---- promise 14

    private static Fixture choosing(String first) {
        return new Fixture(Fixture.DESK, first + Fixture.PUPILS.substring(2), 1, 3);
    }

    private static void choosesWhatIsSo() {
        CHECKS.leaves("14: is so", USUAL, x -> x.chooses(0, 1, true), -2);
        CHECKS.leaves("14: is not so", USUAL, x -> x.chooses(0, 2, false), -2);
        CHECKS.changes("14: comes", USUAL, x -> x.chooses(0, 9, true), 515, choosing("019"));
        CHECKS.changes("14: comes", USUAL, x -> x.chooses(0, 2, true), 7, choosing("012"));
        CHECKS.changes("14: goes", USUAL, x -> x.chooses(0, 0, false), 2, choosing("1"));
    }

    private static void choosesOneToSix() {
        CHECKS.changes("14: one is left", choosing("09"), x -> x.chooses(0, 0, false), 512, choosing("9"));
        CHECKS.leaves("14: none would be", choosing("9"), x -> x.chooses(0, 9, false), -3);
        CHECKS.changes("14: six", choosing("01234"), x -> x.chooses(0, 9, true), 543, choosing("012349"));
        CHECKS.leaves("14: seven would be", choosing("012349"), x -> x.chooses(0, 5, true), -3);
        CHECKS.changes("14: five are left", choosing("012349"), x -> x.chooses(0, 0, false), 542, choosing("12349"));
        OptionLattice x = Fixture.full().get();
        CHECKS.due("14: of the last PUPIL seven", x.chooses(23, 6, true), -3);
        CHECKS.due("14: five", x.chooses(23, 5, false), 31);
        CHECKS.due("14: six", x.chooses(23, 6, true), 95);
        CHECKS.due("14: of another", x.pupil(22), 63);
    }

    // ---- promise 15

    private static Fixture keeping(int... kept) {
        return new Fixture(Fixture.DESK, Fixture.PUPILS, kept);
    }

    private static void keepsWhatIsSo() {
        CHECKS.leaves("15: is KEPT", USUAL, x -> x.keeps(1, true), -2);
        CHECKS.leaves("15: is not", USUAL, x -> x.keeps(0, false), -2);
        CHECKS.changes("15: is now", USUAL, x -> x.keeps(0, true), 3, keeping(0, 1, 3));
        CHECKS.changes("15: is not any more", USUAL, x -> x.keeps(3, false), 1, keeping(1));
        CHECKS.changes("15: nobody is", keeping(5), x -> x.keeps(5, false), 0, keeping());
    }

    private static void keepsUpTo24() {
        OptionLattice x = Fixture.full().get();
        for (int p = 23; p >= 0; p--) {
            CHECKS.due("15: how many", x.keeps(p, true), 24 - p);
        }
        CHECKS.due("41: KEPT ones", x.count(5), 16777215);
        CHECKS.due("15: the last one goes", x.keeps(23, false), 23);
        CHECKS.due("15: the first one goes", x.keeps(0, false), 22);
        CHECKS.due("41: KEPT ones", x.count(5), 8388606);
    }
}
