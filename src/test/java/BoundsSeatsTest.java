import java.util.NoSuchElementException;

/** Boundary by boundary: seats, counts and the ROW (promises 37 to 42). */
public final class BoundsSeatsTest {
    private static final int LEAST = Integer.MIN_VALUE;
    private static final int GREATEST = Integer.MAX_VALUE;
    private static final int ALL_PUPILS = 16777215;
    private static final Checks CHECKS = new Checks();
    private static final Fixture USUAL = Fixture.usual();
    private static final Fixture NOTHING = new Fixture("4x5", "");

    private BoundsSeatsTest() {
    }

    public static void main(String[] args) {
        seatedNobodyAndAll();
        seatedAsSeatsAreLeft();
        seatedInAllOrNone();
        seatedInTheFirstWayWithSeats();
        seatedInTheFirstSectionWithASeat();
        seatedAgain();
        sitsNobodyAndFull();
        sitsByNumbers();
        lackingNobody();
        lackingTheFirstFullSubject();
        lackingNoFullSubject();
        wantsNoneMore();
        wantsTheFewest();
        wantsNotBySoMany();
        countByWhat();
        countFullColumns();
        countTeachersWithTwo();
        countNumbersOfTheRow();
        rowFromFirstToLast();
        rowNoneSuch();
        CHECKS.close("BoundsSeatsTest");
    }

    // ---- promise 37

    private static void seatedNobodyAndAll() {
        CHECKS.asks("37: no PUPILS", NOTHING, x -> x.seated(false), 0, 0);
        CHECKS.asks("37: no PUPILS, back", NOTHING, x -> x.seated(true), 0, 0);
        CHECKS.asks("37: nobody FITS", new Fixture("1x1;0t0z30@0", "1,01"), x -> x.seated(false), 0, 0);
        CHECKS.asks("37: SEATS that are OUT", new Fixture("1x1;0t0z30", "0"), x -> x.seated(false), 0, 0);
        CHECKS.asks("37: all", Fixture.full(), x -> x.seated(false), 24, ALL_PUPILS);
        CHECKS.asks("37: all, back", Fixture.full(), x -> x.seated(true), 24, ALL_PUPILS);
    }

    private static void seatedAsSeatsAreLeft() {
        String pupils = Fixture.pupils(24, "0");
        CHECKS.asks("37: 1 of 24", new Fixture("1x1;0t0z1@0", pupils), x -> x.seated(false), 1, 1);
        CHECKS.asks("37: 1 of 24, back", new Fixture("1x1;0t0z1@0", pupils), x -> x.seated(true), 1, 8388608);
        CHECKS.asks("37: one too few", new Fixture("1x1;0t0z23@0", pupils), x -> x.seated(false), 23, 8388607);
        CHECKS.asks("37: one too few, back", new Fixture("1x1;0t0z23@0", pupils), x -> x.seated(true), 23, 16777214);
        CHECKS.asks("37: as many", new Fixture("1x1;0t0z24@0", pupils), x -> x.seated(false), 24, ALL_PUPILS);
        CHECKS.asks("37: as many in two", new Fixture("1x2;0t0z20@0;0t1z4@0", pupils), x -> x.seated(false), 24, ALL_PUPILS);
        CHECKS.asks("37: too few in two", new Fixture("2x2;0t0z20@0;0t1z3@1", pupils), x -> x.seated(false), 23, 8388607);
    }

    private static void seatedInAllOrNone() {
        Fixture between = new Fixture("2x9;0t0z1@0;1t1z1@1", "0,01,1");
        CHECKS.asks("37: who lacks one takes none", between, x -> x.seated(false), 2, 5);
        CHECKS.asks("37: who lacks one takes none, back", between, x -> x.seated(true), 2, 5);
        Fixture ahead = new Fixture("2x9;0t0z1@0;1t1z1@1", "01,0,1");
        CHECKS.asks("37: who takes both", ahead, x -> x.seated(false), 1, 1);
        CHECKS.asks("37: comes too late, back", ahead, x -> x.seated(true), 2, 6);
        Fixture unfit = new Fixture("2x9;0t0z1@0;1t1z1@0", "01,0,1");
        CHECKS.asks("37: who does not FIT takes none", unfit, x -> x.seated(false), 2, 6);
    }

    private static void seatedInTheFirstWayWithSeats() {
        Fixture two = new Fixture("2x9;0t0z1@0;0t1z1@1;1t2z1@0;1t3z1@1", "01,01,01");
        CHECKS.asks("37: the first, then the other WAY", two, x -> x.seated(false), 2, 3);
        CHECKS.asks("38: 0 in COLUMN 0", two, x -> x.sits(0), 1, 0);
        CHECKS.asks("38: 0 in COLUMN 1", two, x -> x.sits(1), 2, 0);
        CHECKS.asks("38: 1 in COLUMN 0", two, x -> x.sits(2), 2, 0);
        CHECKS.asks("38: 1 in COLUMN 1", two, x -> x.sits(3), 1, 0);
        Fixture cut = new Fixture("2x9;0t0z1@0;0t1z1@1;1t2z9@1", "0,01");
        CHECKS.asks("37: the only WAY has no SEAT left", cut, x -> x.seated(false), 1, 1);
        CHECKS.asks("37: back it has", cut, x -> x.seated(true), 2, 3);
    }

    private static void seatedInTheFirstSectionWithASeat() {
        Fixture three = new Fixture("2x9;0t0z1@1;0t1z2@0;0t2z1@0;0t3z9", "0,0,0,0,0");
        CHECKS.asks("37: four SEATS", three, x -> x.seated(false), 4, 15);
        CHECKS.asks("38: the first COLUMN, the first one there", three, x -> x.sits(1), 3, 0);
        CHECKS.asks("38: the second one there", three, x -> x.sits(2), 4, 0);
        CHECKS.asks("38: then the other COLUMN", three, x -> x.sits(0), 8, 0);
        CHECKS.asks("38: never OUT", three, x -> x.sits(3), 0, 9);
    }

    /** What one asking has seated does not stay for the next. */
    private static void seatedAgain() {
        OptionLattice x = new Fixture("1x9;0t0z1@0;1t1z2@0", "0,0,1").get();
        for (int i = 0; i < 3; i++) {
            CHECKS.due("37: by numbers", x.seated(false), 2);
            CHECKS.dueRow("37: by numbers", x, 5);
            CHECKS.due("40: one more", x.wants(0), 1);
            CHECKS.due("37: back", x.seated(true), 2);
            CHECKS.dueRow("37: back", x, 6);
            CHECKS.due("39: the second", x.lacking(), 2);
            CHECKS.dueRow("39: the second", x, 1, 0);
            CHECKS.due("38: the first", x.sits(0), 1);
            CHECKS.due("38: the third", x.sits(1), 4);
            CHECKS.dueRow("38: one SEAT is left", x, 1);
        }
    }

    // ---- promise 38

    private static void sitsNobodyAndFull() {
        CHECKS.asks("38: no PUPILS", new Fixture("1x1;0t0z30@0", ""), x -> x.sits(0), 0, 30);
        CHECKS.asks("38: nobody chose it", new Fixture("1x9;0t0z7@0;1t1z1@0", "1"), x -> x.sits(0), 0, 7);
        CHECKS.asks("38: full", new Fixture("1x1;0t0z2@0", "0,0,0"), x -> x.sits(0), 3, 0);
        CHECKS.asks("38: as many as SEATS", new Fixture("1x1;0t0z2@0", "0,0"), x -> x.sits(0), 3, 0);
        CHECKS.asks("38: one SEAT is left", new Fixture("1x1;0t0z3@0", "0,0"), x -> x.sits(0), 3, 1);
        CHECKS.asks("38: all 24", Fixture.full(), x -> x.sits(0), ALL_PUPILS, 6);
        CHECKS.asks("38: the last one, of the other COLUMN", Fixture.full(), x -> x.sits(15), 0, 30);
        CHECKS.leaves("38: behind the last one", Fixture.full(), x -> x.sits(16), -1);
    }

    private static void sitsByNumbers() {
        CHECKS.asks("38: not back", new Fixture("1x1;0t0z1@0", "0,0"), x -> x.seated(true) == 1 ? x.sits(0) : -9, 1, 0);
        CHECKS.asks("38: who does not FIT sits nowhere", new Fixture("1x9;0t0z2@0;1t1z2@0", "01,0"), x -> x.sits(0), 2, 1);
    }

    // ---- promise 39

    private static void lackingNobody() {
        CHECKS.asks("39: no PUPILS", NOTHING, x -> x.lacking(), 0, -1, -1);
        CHECKS.asks("39: who does not FIT lacks nothing", new Fixture("1x1;0t0z1@0", "1,01"), x -> x.lacking(), 0, -1, -1);
        CHECKS.asks("39: SEATS for all", new Fixture("1x1;0t0z2@0", "0,0"), x -> x.lacking(), 0, -1, -1);
        CHECKS.asks("39: one too few", new Fixture("1x1;0t0z1@0", "0,0"), x -> x.lacking(), 2, 1, 0);
        CHECKS.asks("39: all 24 are SEATED", Fixture.full(), x -> x.lacking(), 0, -1, -1);
        CHECKS.asks("39: all but the first", new Fixture("1x1;9t0z1@0", Fixture.pupils(24, "9")), x -> x.lacking(), 16777214, 1, 9);
        CHECKS.asks("39: the last", new Fixture("1x1;9t0z23@0", Fixture.pupils(24, "9")), x -> x.lacking(), 8388608, 23, 9);
    }

    private static void lackingTheFirstFullSubject() {
        Fixture second = new Fixture("2x9;0t0z9@0;1t1z1@1", "1,01");
        CHECKS.asks("39: 0 is not full, 1 is", second, x -> x.lacking(), 2, 1, 1);
        Fixture both = new Fixture("2x9;0t0z1@0;1t1z1@1", "01,01");
        CHECKS.asks("39: by numbers", both, x -> x.lacking(), 2, 1, 0);
        Fixture others = new Fixture("2x9;0t0z1@0;1t1z1@1", "01,1");
        CHECKS.asks("39: of its own SUBJECTS", others, x -> x.lacking(), 2, 1, 1);
        Fixture out = new Fixture("2x9;0t0z1@0;0t1z9", "0,0");
        CHECKS.asks("39: SEATS that are OUT do not count", out, x -> x.lacking(), 2, 1, 0);
        Fixture late = new Fixture("2x9;0t0z1@0;0t1z1@1;1t2z9@1", "1,0,01,0");
        CHECKS.asks("39: full when all are SEATED, if not at its turn", late, x -> x.lacking(), 4, 2, 0);
        CHECKS.asks("39: not back", both, x -> x.seated(true) == 1 ? x.lacking() : -9, 2, 1, 0);
    }

    private static void lackingNoFullSubject() {
        Fixture apart = new Fixture("2x9;0t0z1@0;0t1z1@1;1t2z9@1", "1,0,01");
        CHECKS.asks("39: each has a SEAT, in one COLUMN", apart, x -> x.lacking(), 4, 2, -1);
    }

    // ---- promise 40

    private static void wantsNoneMore() {
        CHECKS.leaves("40: no PUPILS", new Fixture("1x1;0t0z1@0", ""), x -> x.wants(0), 0);
        CHECKS.leaves("40: nobody FITS", new Fixture("1x1;0t0z1@0", "1"), x -> x.wants(0), 0);
        CHECKS.leaves("40: all are SEATED", new Fixture("1x1;0t0z2@0", "0,0"), x -> x.wants(0), 0);
        CHECKS.leaves("40: of one that is OUT", new Fixture("1x1;0t0z2@0;0t1z1", "0,0"), x -> x.wants(1), 0);
        CHECKS.leaves("40: of 30", Fixture.full(), x -> x.wants(15), 0);
    }

    private static void wantsTheFewest() {
        for (int seats = 1; seats <= 30; seats++) {
            Fixture many = new Fixture("1x1;0t0z" + seats + "@0", Fixture.pupils(24, "0"));
            CHECKS.leaves("40: behind " + seats, many, x -> x.wants(0), Math.max(0, 24 - seats));
        }
        Fixture two = new Fixture("1x2;0t0z1@0;0t1z2@0", "0,0,0,0,0");
        CHECKS.leaves("40: in the first", two, x -> x.wants(0), 2);
        CHECKS.leaves("40: in the second", two, x -> x.wants(1), 2);
        Fixture cut = new Fixture("2x9;0t0z1@0;0t1z1@1;1t2z9@1", "0,0,01,01");
        CHECKS.leaves("40: those of the first COLUMN", cut, x -> x.wants(0), 3);
    }

    private static void wantsNotBySoMany() {
        Fixture cut = new Fixture("2x9;0t0z1@0;0t1z1@1;1t2z9@1", "0,01");
        CHECKS.leaves("40: by the one that is in the way", cut, x -> x.wants(0), 1);
        CHECKS.leaves("40: not by the other COLUMN", cut, x -> x.wants(1), -2);
        CHECKS.leaves("40: not by another SUBJECT", cut, x -> x.wants(2), -2);
        Fixture both = new Fixture("2x9;0t0z1@0;1t1z1@1", "01,01");
        CHECKS.leaves("40: not by one of two", both, x -> x.wants(0), -2);
        CHECKS.leaves("40: not by the other", both, x -> x.wants(1), -2);
        Fixture out = new Fixture("1x1;0t0z1@0;0t1z30", "0,0");
        CHECKS.leaves("40: not by one that is OUT", out, x -> x.wants(1), -2);
        Fixture thirty = new Fixture("2x9;0t0z30@0;1t1z1@1", "01,01");
        CHECKS.leaves("40: not by more than 30", thirty, x -> x.wants(0), -2);
        CHECKS.leaves("40: no such", both, x -> x.wants(2), -1);
    }

    // ---- promise 41

    private static void countByWhat() {
        int[] usual = {4, 3, 6, 32, 6, 10, 2, 2, 12, 1};
        int[] full = {6, 9, 16, 0, 24, 0, 0, 2, 12, 63};
        int[] none = {4, 5, 0, 0, 0, 0, 0, 2, 12, 0};
        for (int w = 0; w < 10; w++) {
            int what = w;
            CHECKS.leaves("41: count(" + w + ")", USUAL, x -> x.count(what), usual[w]);
            CHECKS.leaves("41: count(" + w + ") of all", Fixture.full(), x -> x.count(what), full[w]);
            CHECKS.leaves("41: count(" + w + ") of none", NOTHING, x -> x.count(what), none[w]);
        }
        for (int what : new int[] {LEAST, -10, -2, -1, 10, 11, 32, 256, 65536, GREATEST}) {
            CHECKS.leaves("41: count(" + what + ")", USUAL, x -> x.count(what), -1);
        }
        OptionLattice x = new OptionLattice();
        for (int i = 0; i < 60; i++) {
            CHECKS.due("41: signs", x.count(8), 4 * i);
            x.sign(i);
        }
        CHECKS.due("41: signs", x.count(8), 240);
        for (int i = 0; i < 16; i++) {
            CHECKS.due("41: OUT ones", x.count(3), (1 << i) - 1);
            x.opens(0, 0, 1);
        }
        CHECKS.due("41: OUT ones", x.count(3), 65535);
        x.puts(15, 0);
        CHECKS.due("41: OUT ones", x.count(3), 32767);
    }

    private static void countFullColumns() {
        CHECKS.leaves("41: as many as ROOMS", new Fixture("3x2;0t0z1@0;0t1z1@0;0t2z1@2", ""), x -> x.count(6), 1);
        CHECKS.leaves("41: fewer than ROOMS", new Fixture("3x3;0t0z1@0;0t1z1@0;0t2z1@2", ""), x -> x.count(6), 0);
        CHECKS.leaves("41: OUT ones fill none", new Fixture("1x1;0t0z1;0t1z1", ""), x -> x.count(6), 0);
        Fixture all = new Fixture("6x1;0t0z1@0;0t0z1@1;0t0z1@2;0t0z1@3;0t0z1@4;0t0z1@5", "");
        CHECKS.leaves("41: all", all, x -> x.count(6), 63);
        CHECKS.leaves("41: BARS fill none", new Fixture("2x1;b001", ""), x -> x.count(6), 0);
    }

    private static void countTeachersWithTwo() {
        CHECKS.leaves("41: one each", new Fixture("1x9;0t0z1;0t1z1;0t9z1", ""), x -> x.count(9), 0);
        CHECKS.leaves("41: two, OUT too", new Fixture("1x9;0t0z1;0t9z1@0;1t9z1", ""), x -> x.count(9), 512);
        CHECKS.leaves("41: three, of another SUBJECT each", new Fixture("1x9;0t0z1;1t0z1;2t0z1", ""), x -> x.count(9), 1);
        Fixture twice = new Fixture("1x9;0t0z1;0t1z1;0t2z1;0t3z1;0t4z1;0t5z1;0t6z1;0t7z1"
            + ";0t0z1;0t1z1;0t2z1;0t3z1;0t4z1;0t5z1;0t6z1;0t7z1", "");
        CHECKS.leaves("41: eight of 16", twice, x -> x.count(9), 255);
        OptionLattice x = twice.get();
        x.closes(15);
        CHECKS.due("41: of one a SECTION less", x.count(9), 127);
    }

    private static void countNumbersOfTheRow() {
        OptionLattice x = Fixture.full().get();
        CHECKS.due("41: none at first", new OptionLattice().count(7), 0);
        x.ways(0);
        CHECKS.due("41: six", x.count(7), 6);
        x.fits();
        CHECKS.due("41: one", x.count(7), 1);
        x.subject(0);
        CHECKS.due("41: three", x.count(7), 3);
        x.column(0);
        CHECKS.due("41: two", x.count(7), 2);
        x.cures(0);
        CHECKS.due("41: none", x.count(7), 0);
    }

    // ---- promise 42

    private static boolean isThere(OptionLattice x, int i) {
        try {
            x.row(i);
            return true;
        } catch (NoSuchElementException e) {
            return false;
        }
    }

    private static void rowFromFirstToLast() {
        OptionLattice x = Fixture.full().get();
        x.ways(23);
        for (int i = 0; i < 6; i++) {
            CHECKS.due("42: row(" + i + ")", x.row(i), i);
        }
        for (int i : new int[] {LEAST, -6, -1, 6, 7, 32, 256, GREATEST}) {
            CHECKS.due("42: row(" + i + ") of six", isThere(x, i), false);
        }
        x.column(3);
        CHECKS.due("42: row(0)", x.row(0), 3);
        CHECKS.due("42: row(1)", x.row(1), 552);
        CHECKS.due("42: nothing of the one ahead of it", isThere(x, 2), false);
        x.lacking();
        CHECKS.due("42: NONE", x.row(0), -1);
        CHECKS.due("42: NONE", x.row(1), -1);
    }

    private static void rowNoneSuch() {
        OptionLattice x = new OptionLattice();
        for (int i : new int[] {LEAST, -1, 0, 1, GREATEST}) {
            CHECKS.due("42: row(" + i + ") at first", isThere(x, i), false);
            CHECKS.leaves("42: row(" + i + ") leaves all", USUAL, y -> isThere(y, i) ? 1 : 0, i == 0 || i == 1 ? 1 : 0);
        }
        CHECKS.due("23: none", USUAL.get().ways(1), 0);
        OptionLattice y = USUAL.get();
        y.ways(1);
        CHECKS.due("42: row(0) of none", isThere(y, 0), false);
        y.fits();
        CHECKS.due("42: row(0) of one", isThere(y, 0), true);
        CHECKS.due("42: row(1) of one", isThere(y, 1), false);
    }
}
