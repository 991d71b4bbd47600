/** Boundary by boundary: moves (promises 28 to 36). */
public final class BoundsMovesTest {
    private static final int LEAST = Integer.MIN_VALUE;
    private static final int GREATEST = Integer.MAX_VALUE;
    private static final int ALL_PUPILS = 16777215;
    private static final Checks CHECKS = new Checks();
    private static final Fixture USUAL = Fixture.usual();
    private static final Fixture NOTHING = new Fixture("4x5", "");
    /** SECTION 15 alone helps, in COLUMN 5 alone. */
    private static final Fixture LAST = new Fixture("6x9;b901234" + times(15, ";0t0z1") + ";9t9z1", "9");
    /** Each SUBJECT waits for its SECTION, three ROOMS to a COLUMN. */
    private static final String STAIRS = "6x3;0t0z1;1t1z1;2t2z1;3t3z1;4t4z1;5t5z1";

    private BoundsMovesTest() {
    }

    public static void main(String[] args) {
        gainWhereItIsOrMayNot();
        gainMoreAndFewer();
        bestMoreThanNow();
        bestOfEqualOnes();
        bestIsLegal();
        climbsOneToThirty();
        climbsAsOftenAsItHelps();
        climbsHoldWhoCameToFit();
        exchangeOfTwoInColumns();
        exchangeAsSwaps();
        exchangeHeld();
        exchangeMoreThanNow();
        splitsNoneLegal();
        splitsOfEqualOnes();
        splitsOfSixteen();
        curesWhoFits();
        curesByOne();
        curesByTwo();
        curesNotByTwo();
        curesHeldAtLast();
        insteadOfWhoFits();
        insteadNoneAndMany();
        spareNoneAndAll();
        spareAsManyFit();
        laysNothing();
        laysMostChosenFirst();
        laysWhereMostFit();
        laysSixteen();
        laysOutIfNoneIsLegal();
        CHECKS.close("BoundsMovesTest");
    }

    private static String times(int many, String part) {
        StringBuilder t = new StringBuilder();
        for (int i = 0; i < many; i++) {
            t.append(part);
        }
        return t.toString();
    }

    // ---- promise 28

    private static void gainWhereItIsOrMayNot() {
        CHECKS.leaves("28: it is there", USUAL, x -> x.gain(0, 0), -1000);
        CHECKS.leaves("28: it is there, full", USUAL, x -> x.gain(3, 1), -1000);
        CHECKS.leaves("28: its TEACHER has another one there", USUAL, x -> x.gain(1, 0), -1000);
        CHECKS.leaves("28: ROOMS", USUAL, x -> x.gain(4, 1), -1000);
        CHECKS.leaves("28: BARS", new Fixture("2x9;b01;0t0z1@0", "0"), x -> x.gain(0, 1), -1000);
        CHECKS.asks("28: no BARS", new Fixture("2x9;b00;0t0z1", "0"), x -> x.gain(0, 1), 1, 1, 0);
        CHECKS.asks("28: one ROOM is left", new Fixture("2x2;0t0z1@0;1t1z1", "1"), x -> x.gain(1, 0), 1, 1, 0);
        CHECKS.leaves("28: none is", new Fixture("2x1;0t0z1@0;1t1z1", "1"), x -> x.gain(1, 0), -1000);
        CHECKS.leaves("28: no such, where it is not", USUAL, x -> x.gain(6, 0), -1);
        CHECKS.leaves("28: no such COLUMN", USUAL, x -> x.gain(0, 4), -1);
        CHECKS.leaves("28: no such", USUAL, x -> x.gain(LEAST, GREATEST), -1);
    }

    private static void gainMoreAndFewer() {
        CHECKS.asks("28: two more", USUAL, x -> x.gain(2, 2), 2, 6, 0);
        CHECKS.asks("28: who is OUT comes", USUAL, x -> x.gain(5, 0), 1, 32, 0);
        CHECKS.asks("28: as many, the same", USUAL, x -> x.gain(1, 3), 0, 0, 0);
        Fixture either = new Fixture("2x9;0t0z1@0;1t1z1@1;2t2z1@1", "01,12", 0);
        CHECKS.asks("28: as many, others, KEPT or not", either, x -> x.gain(1, 0), 0, 2, 1);
        Fixture all = new Fixture("1x1;0t0z1", Fixture.pupils(24, "0"));
        CHECKS.asks("28: 24 more", all, x -> x.gain(0, 0), 24, ALL_PUPILS, 0);
        Fixture none = new Fixture("2x9;0t0z1@0;1t1z1@1", Fixture.pupils(24, "01"));
        CHECKS.asks("28: 24 fewer", none, x -> x.gain(0, 1), -24, 0, ALL_PUPILS);
        CHECKS.asks("28: nobody there", new Fixture("1x1;0t0z1", ""), x -> x.gain(0, 0), 0, 0, 0);
    }

    // ---- promise 29

    private static void bestMoreThanNow() {
        CHECKS.leaves("29: no SECTIONS", new Fixture("4x5", "0"), x -> x.best(), -2);
        CHECKS.leaves("29: no PUPILS", new Fixture("4x5;0t0z1", ""), x -> x.best(), -2);
        CHECKS.leaves("29: all FIT", new Fixture("2x9;0t0z1@0;1t1z1@1", "01"), x -> x.best(), -2);
        Fixture either = new Fixture("2x9;0t0z1@0;1t1z1@1;2t2z1@1", "01,12");
        CHECKS.asks("29: as many by the others' move, more by its own", either, x -> x.best(), 200, 2);
        Fixture same = new Fixture("2x9;b20;0t0z1@0;1t1z1@1;2t2z1@1", "01,12");
        CHECKS.leaves("29: as many is not more", same, x -> x.best(), -2);
        CHECKS.asks("29: one more is", new Fixture("2x9;b20;0t0z1@0;1t1z1@1;2t2z1@1", "01,12,12"), x -> x.best(), 100, 2);
        CHECKS.leaves("29: a new object", OptionLattice::new, x -> x.best(), -2);
    }

    private static void bestOfEqualOnes() {
        CHECKS.asks("29: the first SECTION, the first COLUMN", new Fixture("3x9;0t0z1;1t1z1", "0,1"), x -> x.best(), 0, 1);
        CHECKS.asks("29: the first LEGAL COLUMN", new Fixture("3x9;b00;0t0z1;1t1z1", "0,1"), x -> x.best(), 1, 1);
        CHECKS.asks("29: most, though later", new Fixture("3x9;0t0z1;1t1z1", "0,1,1"), x -> x.best(), 100, 2);
        CHECKS.asks("29: most, in a later COLUMN", new Fixture("3x9;0t0z1@0;1t1z1@1;2t2z1", "02,12,12,2"), x -> x.best(), 202, 4);
        CHECKS.asks("29: the last of all", LAST, x -> x.best(), 1505, 1);
    }

    private static void bestIsLegal() {
        CHECKS.leaves("29: BARS", new Fixture("2x9;b001;0t0z1", "0"), x -> x.best(), -2);
        CHECKS.leaves("29: ROOMS", new Fixture("1x1;1t1z1@0;0t0z1", "0"), x -> x.best(), -2);
        CHECKS.leaves("29: TEACHER", new Fixture("1x9;1t0z1@0;0t0z1", "0"), x -> x.best(), -2);
        CHECKS.asks("29: a ROOM more", new Fixture("1x2;1t1z1@0;0t0z1", "0"), x -> x.best(), 100, 1);
    }

    // ---- promise 30

    private static void climbsOneToThirty() {
        for (int k : new int[] {LEAST, -30, -1, 0, 31, 32, 257, GREATEST}) {
            CHECKS.leaves("30: climbs(" + k + ")", USUAL, x -> x.climbs(k), -1);
        }
        Fixture one = new Fixture(STAIRS.replace("0t0z1", "0t0z1@0"), "0,1,2,3,4,5");
        CHECKS.tells("30: climbs(1)", new Fixture(STAIRS, "0,1,2,3,4,5"), x -> x.climbs(1), 1, one, 1);
    }

    private static void climbsAsOftenAsItHelps() {
        Fixture stairs = new Fixture(STAIRS, "0,1,2,3,4,5");
        Fixture five = new Fixture("6x3;0t0z1@0;1t1z1@0;2t2z1@0;3t3z1@1;4t4z1@1;5t5z1", "0,1,2,3,4,5");
        Fixture six = new Fixture("6x3;0t0z1@0;1t1z1@0;2t2z1@0;3t3z1@1;4t4z1@1;5t5z1@1", "0,1,2,3,4,5");
        CHECKS.tells("30: one fewer than could be", stairs, x -> x.climbs(5), 5, five, 5);
        CHECKS.tells("30: as many as can be", stairs, x -> x.climbs(6), 6, six, 6);
        CHECKS.tells("30: no more than can be", stairs, x -> x.climbs(7), 6, six, 6);
        CHECKS.tells("30: by far", stairs, x -> x.climbs(30), 6, six, 6);
        CHECKS.asks("30: none", six, x -> x.climbs(30), 0, 6);
        CHECKS.asks("30: of nothing", NOTHING, x -> x.climbs(1), 0, 0);
    }

    private static void climbsHoldWhoCameToFit() {
        String desk = "2x9;b21;0t0z1@0;1t1z1;2t2z1";
        String pupils = "01,02,02,12";
        CHECKS.tells("30: at the third PUPIL 0 loses", new Fixture(desk, pupils), x -> x.climbs(30), 3,
            new Fixture("2x9;b21;0t0z1@1;1t1z1@1;2t2z1@0", pupils), 3);
        CHECKS.tells("30: who is KEPT and came to FIT does not", new Fixture(desk, pupils, 0), x -> x.climbs(30), 2,
            new Fixture("2x9;b21;0t0z1@0;1t1z1@1;2t2z1@0", pupils, 0), 2);
    }

    // ---- promise 31

    private static void exchangeOfTwoInColumns() {
        CHECKS.leaves("31: no SECTIONS", NOTHING, x -> x.exchange(), -2);
        CHECKS.leaves("31: none that is OUT", new Fixture("2x1;0t0z1@0;1t1z1@1;2t2z1", "2"), x -> x.exchange(), -2);
        CHECKS.leaves("31: not in one COLUMN", new Fixture("1x9;0t0z1@0;1t1z1@0", "01"), x -> x.exchange(), -2);
        Fixture four = new Fixture("2x2;0t0z1@0;1t1z1@0;2t2z1@1;3t3z1@1", "01");
        CHECKS.asks("31: of equal ones the first", four, x -> x.exchange(), 2, 1);
        Fixture later = new Fixture("2x2;0t0z1@0;1t1z1@0;2t2z1@1;3t3z1@1", "01,03", 1);
        CHECKS.asks("31: most, though later", later, x -> x.exchange(), 3, 2);
        // 6 and 7 may not move, so 8 and 9 have to change.
        String last = "2x9;b11;b20" + times(12, ";0t0z1") + ";6t1z1@0;7t2z1@1;8t3z1@0;9t4z1@1";
        CHECKS.asks("31: the last ones", new Fixture(last, "68,79"), x -> x.exchange(), 1415, 2);
    }

    private static void exchangeAsSwaps() {
        String four = "0t0z1@0;1t1z1@0;2t2z1@1;3t3z1@1";
        CHECKS.asks("31: BARS of 2", new Fixture("2x2;b20;" + four, "01"), x -> x.exchange(), 3, 1);
        CHECKS.asks("31: BARS of 0", new Fixture("2x2;b01;" + four, "01"), x -> x.exchange(), 102, 1);
        CHECKS.leaves("31: BARS of both", new Fixture("2x2;b20;b30;" + four, "01"), x -> x.exchange(), -2);
        CHECKS.leaves("31: BARS of both others", new Fixture("2x2;b01;b11;" + four, "01"), x -> x.exchange(), -2);
        Fixture taught = new Fixture("2x9;0t0z1@0;1t1z1@0;2t0z1@1;3t1z1@1", "01");
        CHECKS.asks("31: of one TEACHER", taught, x -> x.exchange(), 2, 1);
        Fixture busy = new Fixture("2x9;0t0z1@0;1t1z1@0;2t2z1@1;3t0z1@1;4t1z1@1", "01");
        CHECKS.asks("31: each with the other one of its TEACHER alone", busy, x -> x.exchange(), 3, 1);
    }

    private static void exchangeHeld() {
        String desk = "2x2;b11;b30;0t0z1@0;1t1z1@0;2t2z1@1;3t3z1@1";
        CHECKS.asks("31: 03 loses", new Fixture(desk, "01,01,03"), x -> x.exchange(), 2, 2);
        CHECKS.leaves("31: 03 is KEPT", new Fixture(desk, "01,01,03", 2), x -> x.exchange(), -2);
        CHECKS.asks("31: others are KEPT", new Fixture(desk, "01,01,03", 0, 1), x -> x.exchange(), 2, 2);
    }

    private static void exchangeMoreThanNow() {
        String desk = "2x2;b11;b30;0t0z1@0;1t1z1@0;2t2z1@1;3t3z1@1";
        CHECKS.leaves("31: as many", new Fixture(desk, "01,03"), x -> x.exchange(), -2);
        CHECKS.leaves("31: fewer", new Fixture(desk, "03"), x -> x.exchange(), -2);
        CHECKS.leaves("31: no PUPILS", new Fixture(desk, ""), x -> x.exchange(), -2);
        CHECKS.asks("31: all 24", new Fixture(desk, Fixture.pupils(24, "01")), x -> x.exchange(), 2, 24);
    }

    // ---- promise 32

    private static void splitsNoneLegal() {
        CHECKS.leaves("32: BARS", new Fixture("2x9;b501", "0"), x -> x.splits(0, 5), -2);
        CHECKS.asks("32: all BARS but one", new Fixture("2x9;b50", "0"), x -> x.splits(0, 5), 1, 1);
        CHECKS.leaves("32: ROOMS", new Fixture("1x2;1t1z1@0;2t2z1@0", "0"), x -> x.splits(0, 5), -2);
        CHECKS.asks("32: a ROOM is left", new Fixture("1x2;1t1z1@0;2t2z1", "0"), x -> x.splits(0, 5), 0, 1);
        CHECKS.leaves("32: TEACHER", new Fixture("2x9;1t5z1@0;2t5z1@1", "0"), x -> x.splits(0, 5), -2);
        CHECKS.asks("32: the TEACHER is OUT", new Fixture("2x9;1t5z1@0;2t5z1", "0"), x -> x.splits(0, 5), 1, 1);
        CHECKS.leaves("32: one by each", new Fixture("3x1;b50;1t5z1@1;2t2z1@2", "0"), x -> x.splits(0, 5), -2);
    }

    private static void splitsOfEqualOnes() {
        CHECKS.asks("32: nobody at all", NOTHING, x -> x.splits(0, 0), 0, 0);
        CHECKS.asks("32: nobody more", USUAL, x -> x.splits(9, 9), 0, 3);
        CHECKS.asks("32: the first LEGAL one", USUAL, x -> x.splits(9, 0), 2, 3);
        Fixture most = new Fixture("3x9;0t0z1@0;1t1z1@1", "12,12,02");
        CHECKS.asks("32: most in the last", most, x -> x.splits(2, 2), 2, 3);
        CHECKS.asks("32: most but in the last", new Fixture("3x9;b22;0t0z1@0;1t1z1@1", "12,12,02"), x -> x.splits(2, 2), 0, 2);
        CHECKS.asks("32: who has it already", new Fixture("2x9;0t0z1@0", "0", 0), x -> x.splits(0, 0), 1, 1);
        CHECKS.asks("32: COLUMN 5", new Fixture("6x9;b901234", "9"), x -> x.splits(9, 9), 5, 1);
    }

    private static void splitsOfSixteen() {
        CHECKS.asks("32: one more is but thought of", Fixture.full(), x -> x.splits(0, 6), 1, 24);
        Fixture sixteen = new Fixture("1x9" + times(16, ";0t0z1"), "1");
        CHECKS.asks("32: of 16 that are OUT", sixteen, x -> x.splits(1, 0), 0, 1);
    }

    // ---- promise 33

    private static void curesWhoFits() {
        CHECKS.asks("33: FITS", USUAL, x -> x.cures(0), 0);
        CHECKS.asks("33: FITS, the last of 24", Fixture.full(), x -> x.cures(23), 0);
    }

    private static void curesByOne() {
        CHECKS.asks("33: of as few the first", USUAL, x -> x.cures(1), 1, 200);
        CHECKS.asks("33: one that is OUT", USUAL, x -> x.cures(5), 1, 500);
        CHECKS.asks("33: the last of all", LAST, x -> x.cures(0), 1, 1505);
        CHECKS.asks("33: by one, though two would come first", new Fixture("3x9;0t0z1@0;1t1z1@0;2t2z1", "2"), x -> x.cures(0), 1, 200);
        CHECKS.asks("33: the first LEGAL COLUMN", new Fixture("3x1;b21;0t0z1@0;2t2z1", "2"), x -> x.cures(0), 1, 102);
        CHECKS.asks("33: 0 to COLUMN 0", new Fixture("1x1;0t0z1", "0"), x -> x.cures(0), 1, 0);
    }

    private static void curesByTwo() {
        CHECKS.asks("33: both are OUT", new Fixture("2x9;0t0z1;1t1z1", "01"), x -> x.cures(0), 2, 0, 101);
        CHECKS.asks("33: a ROOM has to be made", new Fixture("2x1;b21;1t0z1@0;0t2z1", "0"), x -> x.cures(0), 2, 1, 100);
        CHECKS.leaves("33: no ROOM can be made", new Fixture("2x1;b01;b21;1t0z1@0;0t2z1", "0"), x -> x.cures(0), -2);
        Fixture taught = new Fixture("3x9;b102;b301;2t0z1@0;0t0z1@1;1t1z1@1;3t3z1@2", "013");
        CHECKS.asks("33: a TEACHER has to be free", taught, x -> x.cures(0), 2, 2, 100);
    }

    private static void curesNotByTwo() {
        CHECKS.leaves("33: no SECTIONS", new Fixture("4x5", "0"), x -> x.cures(0), -2);
        CHECKS.leaves("33: none that is LEGAL", new Fixture("1x1;b00;0t0z1", "0"), x -> x.cures(0), -2);
        CHECKS.leaves("33: three are OUT", new Fixture("3x9;0t0z1;1t1z1;2t2z1", "012"), x -> x.cures(0), -2);
        CHECKS.asks("33: two of three are OUT", new Fixture("3x9;0t0z1;1t1z1@0;2t2z1", "012"), x -> x.cures(0), 2, 1, 202);
        CHECKS.leaves("33: of 16 SECTIONS", new Fixture("1x9" + times(16, ";1t1z1"), "0"), x -> x.cures(0), -2);
        CHECKS.leaves("33: of 16 SECTIONS in COLUMNS", new Fixture(Fixture.fullDesk().replace(";9t9", ";8t9"), "9"),
            x -> x.cures(0), -2);
        CHECKS.leaves("33: more CHOICES than COLUMNS", new Fixture("2x9;0t0z1@0;1t1z1@1;2t2z1@1", "012"), x -> x.cures(0), -2);
    }

    private static void curesHeldAtLast() {
        String desk = "2x9;b20;0t0z1@0;1t1z1@0;2t2z1@1";
        CHECKS.asks("33: nobody is KEPT", new Fixture(desk, "01,02"), x -> x.cures(0), 1, 1);
        CHECKS.leaves("33: 02 and 12 are KEPT", new Fixture(desk, "01,02,12", 1, 2), x -> x.cures(0), -2);
        CHECKS.asks("33: 02 is KEPT", new Fixture(desk, "01,02,12", 1), x -> x.cures(0), 1, 101);
        Fixture between = new Fixture("2x9;0t0z1@0;1t1z1@1;2t2z1@0", "02,01", 1);
        CHECKS.asks("33: by one that is HELD", between, x -> x.cures(0), 1, 201);
        CHECKS.leaves("33: the first PUPIL is KEPT", new Fixture("2x9;b01;b20;1t1z1@1;0t0z1@0;2t2z1@1", "01,12", 0),
            x -> x.cures(1), -2);
        CHECKS.asks("33: the first PUPIL is not", new Fixture("2x9;b01;b20;1t1z1@1;0t0z1@0;2t2z1@1", "01,12"), x -> x.cures(1), 1, 0);
        CHECKS.leaves("33: the last of 24 is KEPT", new Fixture("2x9;b01;b20;1t1z1@1;0t0z1@0;2t2z1@1",
            "12," + Fixture.pupils(22, "1") + ",01", 23), x -> x.cures(0), -2);
        String tight = "3x9;b012;b12;b22;0t0z1@0;1t1z1@0;2t2z1@1";
        CHECKS.asks("33: 12 loses", new Fixture(tight, "01,12"), x -> x.cures(0), 1, 101);
        CHECKS.asks("33: 12 loses between, but not at last", new Fixture(tight, "01,12", 1), x -> x.cures(0), 2, 101, 200);
    }

    // ---- promise 34

    private static void insteadOfWhoFits() {
        CHECKS.leaves("34: FITS", USUAL, x -> x.instead(0), -2);
        CHECKS.asks("34: does not", USUAL, x -> x.instead(1), 4, 10);
        CHECKS.leaves("34: no such", USUAL, x -> x.instead(6), -1);
    }

    private static void insteadNoneAndMany() {
        StringBuilder low = new StringBuilder("1x9");
        StringBuilder high = new StringBuilder("1x9");
        for (int s = 0; s < 9; s++) {
            low.append(";").append(s).append("t").append(s).append("z1@0");
            high.append(";").append(s + 1).append("t").append(s).append("z1@0");
        }
        CHECKS.asks("34: none", new Fixture("1x1", "0"), x -> x.instead(0), 0, -1);
        CHECKS.asks("34: none for two", new Fixture(low.toString(), "01"), x -> x.instead(0), 0, -1);
        CHECKS.asks("34: all nine for 0", new Fixture(high.toString(), "0"), x -> x.instead(0), 9, 1);
        CHECKS.asks("34: all nine for 9", new Fixture(low.toString(), "9"), x -> x.instead(0), 9, 90);
        CHECKS.asks("34: one for 9", new Fixture("1x1;8t0z1@0", "9"), x -> x.instead(0), 1, 98);
        Fixture six = new Fixture("6x9;0t0z1@0;1t1z1@1;2t2z1@2;3t3z1@3;4t4z1@4;6t6z1@5;7t7z1@5", "012345");
        CHECKS.asks("34: one of six", six, x -> x.instead(0), 2, 56);
        Fixture other = new Fixture("2x9;0t0z1@0;1t1z1@0;2t2z1@1", "01");
        CHECKS.asks("34: either goes", other, x -> x.instead(0), 2, 2);
    }

    // ---- promise 35

    private static void spareNoneAndAll() {
        CHECKS.asks("35: no SECTIONS", NOTHING, x -> x.spare(), 0, 0);
        CHECKS.asks("35: no PUPILS", new Fixture(Fixture.fullDesk(), ""), x -> x.spare(), 65535, 0);
        CHECKS.asks("35: all OUT", new Fixture("1x9" + times(16, ";0t0z1"), "0"), x -> x.spare(), 65535, 16);
        CHECKS.asks("35: none", new Fixture("2x9;0t0z1@0;1t1z1@1", "01"), x -> x.spare(), 0, 0);
        CHECKS.asks("35: nobody FITS", new Fixture("1x9;0t0z1@0;1t1z1", "01"), x -> x.spare(), 3, 1);
    }

    private static void spareAsManyFit() {
        CHECKS.asks("35: either of two", new Fixture("2x9;0t0z1@0;0t1z1@1;1t2z1", "0"), x -> x.spare(), 7, 1);
        CHECKS.asks("35: either of two in one COLUMN", new Fixture("2x9;0t0z1@0;0t1z1@0", "0"), x -> x.spare(), 3, 0);
        CHECKS.asks("35: one of 24 would lose", new Fixture("2x9;0t0z1@0;1t1z1@1", Fixture.pupils(23, "0") + ",1"),
            x -> x.spare(), 0, 0);
        CHECKS.asks("35: the last SECTION", new Fixture("1x9" + times(15, ";1t1z1") + ";0t0z1@0", "0"), x -> x.spare(), 32767, 15);
    }

    // ---- promise 36

    private static void laysNothing() {
        CHECKS.asks("36: no SECTIONS", NOTHING, x -> x.lays(), 0, 0);
        CHECKS.tells("36: no PUPILS", new Fixture("2x1;0t0z1;1t1z1@0;2t2z1", ""), x -> x.lays(), 2,
            new Fixture("2x1;0t0z1@0;1t1z1@1;2t2z1", ""), 0);
    }

    private static void laysMostChosenFirst() {
        CHECKS.tells("36: most chosen, KEPT or not", new Fixture("1x1;0t0z1@0;1t1z1", "0,1,1", 0), x -> x.lays(), 1,
            new Fixture("1x1;0t0z1;1t1z1@0", "0,1,1", 0), 2);
        CHECKS.tells("36: of equal ones by numbers", new Fixture("1x1;1t1z1;0t0z1@0", "0,1"), x -> x.lays(), 1,
            new Fixture("1x1;1t1z1@0;0t0z1", "0,1"), 1);
        CHECKS.tells("36: what nobody chose comes last", new Fixture("1x1;5t5z1@0;0t0z1", "0"), x -> x.lays(), 1,
            new Fixture("1x1;5t5z1;0t0z1@0", "0"), 1);
        CHECKS.tells("36: all 24 chose it", new Fixture("1x1;5t5z1@0;9t0z1", Fixture.pupils(23, "59") + ",9"), x -> x.lays(), 1,
            new Fixture("1x1;5t5z1;9t0z1@0", Fixture.pupils(23, "59") + ",9"), 1);
    }

    private static void laysWhereMostFit() {
        CHECKS.tells("36: of equal ones the first COLUMN", new Fixture("3x9;0t0z1@2;1t1z1@2", "0,1"), x -> x.lays(), 2,
            new Fixture("3x9;0t0z1@0;1t1z1@0", "0,1"), 2);
        CHECKS.tells("36: where most FIT", new Fixture("3x9;0t0z1@2;1t1z1@2", "01"), x -> x.lays(), 2,
            new Fixture("3x9;0t0z1@0;1t1z1@1", "01"), 1);
        CHECKS.tells("36: in the last COLUMN", new Fixture("3x9;0t0z1;1t1z1;2t2z1", "012,01,0"), x -> x.lays(), 3,
            new Fixture("3x9;0t0z1@0;1t1z1@1;2t2z1@2", "012,01,0"), 3);
    }

    private static void laysSixteen() {
        CHECKS.tells("36: of one TEACHER one to a COLUMN", new Fixture("2x9" + times(16, ";0t0z1"), "0"), x -> x.lays(), 2,
            new Fixture("2x9;0t0z1@0;0t0z1@1" + times(14, ";0t0z1"), "0"), 1);
        StringBuilder out = new StringBuilder("2x8");
        StringBuilder laid = new StringBuilder("2x8");
        for (int i = 0; i < 16; i++) {
            out.append(";0t").append(i % 8).append("z1");
            laid.append(";0t").append(i % 8).append("z1@").append(i / 8);
        }
        CHECKS.tells("36: all 16, as ROOMS let them", new Fixture(out.toString(), ""), x -> x.lays(), 16,
            new Fixture(laid.toString(), ""), 0);
    }

    private static void laysOutIfNoneIsLegal() {
        CHECKS.tells("36: BARS", new Fixture("2x9;b001;0t0z1;1t1z1", "0,1"), x -> x.lays(), 1,
            new Fixture("2x9;b001;0t0z1;1t1z1@0", "0,1"), 1);
        CHECKS.tells("36: TEACHER", new Fixture("1x9;0t0z1;1t0z1@0", "0,1"), x -> x.lays(), 1,
            new Fixture("1x9;0t0z1@0;1t0z1", "0,1"), 1);
        CHECKS.tells("36: ROOMS", new Fixture("2x1;0t0z1;1t1z1;2t2z1;3t3z1@1", "0,1,2,3"), x -> x.lays(), 2,
            new Fixture("2x1;0t0z1@0;1t1z1@1;2t2z1;3t3z1", "0,1,2,3"), 2);
    }
}
