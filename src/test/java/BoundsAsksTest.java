/** Boundary by boundary: what is there, and who fits (promises 16 to 27). */
public final class BoundsAsksTest {
    private static final int LEAST = Integer.MIN_VALUE;
    private static final int GREATEST = Integer.MAX_VALUE;
    private static final int ALL_PUPILS = 16777215;
    private static final Checks CHECKS = new Checks();
    private static final Fixture USUAL = Fixture.usual();

    private BoundsAsksTest() {
    }

    public static void main(String[] args) {
        sectionByWhat();
        columnsEmptyAndFull();
        subjectOfNoneAndOfAll();
        pupilFitsAndKept();
        legalNoneAndAll();
        whyOfSeveralTheLeast();
        fitsNobodyAndAll();
        waysNoneAndMany();
        waysByRows();
        waysAgain();
        crowdFewerColumnsThanSubjects();
        crowdFewestThenLeast();
        crowdOfWhoFits();
        setsOneToSix();
        setsFirstWithout();
        bothNobodyAndAll();
        bothOfOne();
        clashInOneColumnAlone();
        clashOfEqualOnes();
        clashOfNobody();
        CHECKS.close("BoundsAsksTest");
    }

    private static String sections(String head, int many, String line) {
        StringBuilder t = new StringBuilder(head);
        for (int i = 0; i < many; i++) {
            t.append(line.replace("#", "" + i % 10).replace("^", "" + i / 6).replace("~", "" + i % 6));
        }
        return t.toString();
    }

    // ---- promise 16

    private static void sectionByWhat() {
        Fixture edges = new Fixture("6x9;0t0z1@0;9t9z30@5;5t4z9", "");
        int[][] due = {{0, 0, 1, 0}, {9, 9, 30, 5}, {5, 4, 9, -2}};
        for (int s = 0; s < 3; s++) {
            int section = s;
            for (int w = 0; w < 4; w++) {
                int what = w;
                CHECKS.leaves("16: section(" + s + ", " + w + ")", edges, x -> x.section(section, what), due[s][w]);
            }
            for (int what : new int[] {LEAST, -4, -2, -1, 4, 5, 32, 35, 256, 259, GREATEST}) {
                CHECKS.leaves("16: section(" + s + ", " + what + ")", edges, x -> x.section(section, what), -1);
            }
        }
    }

    // ---- promise 17

    private static void columnsEmptyAndFull() {
        CHECKS.asks("17: an empty one", USUAL, x -> x.column(3), 0, 0, 0);
        CHECKS.asks("17: one", USUAL, x -> x.column(2), 16, 1, 8);
        CHECKS.asks("17: a full one", USUAL, x -> x.column(1), 14, 3, 7);
        Fixture full = Fixture.full();
        CHECKS.asks("17: SECTIONS 0, 6, 12", full, x -> x.column(0), 4161, 3, 69);
        CHECKS.asks("17: SECTIONS 3, 9, 15", full, x -> x.column(3), 33288, 3, 552);
        CHECKS.asks("17: the last one", full, x -> x.column(5), 2080, 2, 34);
        Fixture nine = new Fixture(sections("1x9", 9, ";#t#z1@0") + ";9t9z1", "");
        CHECKS.asks("17: nine ROOMS, not who is OUT", nine, x -> x.column(0), 511, 9, 511);
        Fixture same = new Fixture("2x9;7t0z1@1;7t1z1@1;7t2z1@0;3t3z1@1", "");
        CHECKS.asks("17: a SUBJECT twice", same, x -> x.column(1), 0b1011, 3, 136);
        CHECKS.asks("17: of none", new Fixture("4x5", ""), x -> x.column(0), 0, 0, 0);
    }

    // ---- promise 18

    private static void subjectOfNoneAndOfAll() {
        CHECKS.asks("18: nothing of it", USUAL, x -> x.subject(9), 0, 0, 0, 0);
        CHECKS.asks("18: OUT alone", USUAL, x -> x.subject(4), 0, 1, 1, 1);
        CHECKS.asks("18: chosen alone", new Fixture("1x1", "9,09"), x -> x.subject(9), 0, 0, 2, 0);
        Fixture all = new Fixture(sections("6x9", 16, ";9t^z30@~"), Fixture.pupils(24, "9"));
        CHECKS.asks("18: all of all", all, x -> x.subject(9), 63, 16, 24, 480);
        CHECKS.asks("18: of another", all, x -> x.subject(8), 0, 0, 0, 0);
        Fixture mixed = new Fixture("3x9;0t0z1@2;0t1z2@2;0t2z4;1t3z8@0", "0,1,01");
        CHECKS.asks("18: two in one COLUMN, one OUT", mixed, x -> x.subject(0), 4, 3, 2, 7);
        CHECKS.asks("18: the first COLUMN", mixed, x -> x.subject(1), 1, 1, 2, 8);
    }

    // ---- promise 19

    private static void pupilFitsAndKept() {
        CHECKS.asks("19: FITS, is not KEPT", USUAL, x -> x.pupil(0), 3, 1, 0);
        CHECKS.asks("19: is KEPT, does not FIT", USUAL, x -> x.pupil(1), 6, 0, 1);
        CHECKS.asks("19: neither", USUAL, x -> x.pupil(2), 7, 0, 0);
        CHECKS.asks("19: both", USUAL, x -> x.pupil(3), 9, 1, 1);
        Fixture last = new Fixture("1x1;9t0z1@0", Fixture.pupils(23, "8") + ",9", 22);
        CHECKS.asks("19: the last one", last, x -> x.pupil(23), 512, 1, 0);
        CHECKS.asks("19: the one ahead of it", last, x -> x.pupil(22), 256, 0, 1);
    }

    // ---- promise 20

    private static void legalNoneAndAll() {
        CHECKS.asks("20: all", new Fixture("6x1;0t0z1", ""), x -> x.legal(0), 63, 6);
        CHECKS.asks("20: all, its own too", new Fixture("6x1;0t0z1@5", ""), x -> x.legal(0), 63, 6);
        CHECKS.asks("20: none by BARS", new Fixture("2x9;b001;0t0z1", ""), x -> x.legal(0), 0, 0);
        CHECKS.asks("20: none by ROOMS", new Fixture("1x1;1t1z1@0;0t0z1", ""), x -> x.legal(1), 0, 0);
        CHECKS.asks("20: none by its TEACHER", new Fixture("1x9;1t0z1@0;0t0z1", ""), x -> x.legal(1), 0, 0);
        CHECKS.asks("20: its own alone", new Fixture("2x9;b01;0t0z1@0", ""), x -> x.legal(0), 1, 1);
        CHECKS.asks("20: one by each reason", new Fixture("4x1;b02;0t0z1@0;1t1z1@1;2t0z1", ""), x -> x.legal(2), 8, 1);
    }

    // ---- promise 21

    private static void whyOfSeveralTheLeast() {
        Fixture all = new Fixture("5x2;b023;0t0z1@0;1t0z1@1;2t1z1@1;3t2z1@3;4t3z1@3;5t4z1@4;6t5z1@4;7t0z1", "");
        int[] whys = {1, 1, 2, 2, 3};
        for (int c = 0; c < 5; c++) {
            int column = c;
            CHECKS.leaves("21: TEACHER, and ROOMS; BARS, and ROOMS; ROOMS", all, x -> x.why(7, column), whys[c]);
        }
        CHECKS.leaves("21: its own, full", all, x -> x.why(5, 4), 0);
        CHECKS.leaves("21: one ROOM is left", all, x -> x.why(5, 0), 0);
        CHECKS.leaves("21: none is left", all, x -> x.why(5, 1), 3);
        CHECKS.leaves("21: no SECTION and no COLUMN", all, x -> x.why(8, 5), -1);
        for (int c : new int[] {LEAST, -1, 5, GREATEST}) {
            CHECKS.leaves("21: no such COLUMN", all, x -> x.why(7, c), -1);
        }
    }

    // ---- promise 22

    private static void fitsNobodyAndAll() {
        CHECKS.asks("22: no PUPILS", new Fixture("4x5;0t0z1@0", ""), x -> x.fits(), 0, 0);
        CHECKS.asks("22: nobody", new Fixture("4x5", "0,1"), x -> x.fits(), 0, 0);
        CHECKS.asks("22: all", Fixture.full(), x -> x.fits(), 24, ALL_PUPILS);
        Fixture last = new Fixture("1x1;9t0z1@0", Fixture.pupils(23, "8") + ",9");
        CHECKS.asks("22: the last one", last, x -> x.fits(), 1, 8388608);
        Fixture first = new Fixture("1x1;9t0z1@0", "9," + Fixture.pupils(23, "8"));
        CHECKS.asks("22: the first one", first, x -> x.fits(), 1, 1);
    }

    // ---- promise 23

    private static void waysNoneAndMany() {
        CHECKS.asks("23: none", USUAL, x -> x.ways(1), 0);
        CHECKS.asks("23: none, being OUT", USUAL, x -> x.ways(5), 0);
        CHECKS.asks("23: one", USUAL, x -> x.ways(0), 1, 0, 1);
        Fixture single = new Fixture(sections("6x9", 6, ";0t#z1@~") + ";0t6z1@0;0t7z1", "0");
        CHECKS.asks("23: six, one COLUMN twice", single, x -> x.ways(0), 6, 0);
        Fixture more = new Fixture("1x9;0t0z1@0;1t1z1@0", "01,0,1");
        CHECKS.asks("23: more CHOICES than COLUMNS", more, x -> x.ways(0), 0);
        CHECKS.asks("23: as many", more, x -> x.ways(1), 1, 0);
        // Three SUBJECTS in all six COLUMNS would need 18 SECTIONS; here are 6, 5 and 5.
        String most = sections("6x9", 6, ";0t#z1@~");
        for (int i = 0; i < 10; i++) {
            most += ";" + (1 + i / 5) + "t" + (6 + i / 5) + "z1@" + (1 + i % 5);
        }
        CHECKS.asks("23: 5 times 4, with 4 left for 0", new Fixture(most, "012"), x -> x.ways(0), 80, 0, 1, 2);
        CHECKS.asks("23: of 24 the last", Fixture.full(), x -> x.ways(23), 4, 0, 1, 2, 3, 4, 5);
    }

    private static void waysByRows() {
        Fixture late = new Fixture("3x9;0t0z1@0;0t1z1@1;1t2z1@0;2t3z1@1;2t4z1@2", "01,12,012");
        CHECKS.asks("23: 0 leaves COLUMN 0 to 1", late, x -> x.ways(0), 1, 1, 0);
        CHECKS.asks("23: the lesser COLUMN for 2", late, x -> x.ways(1), 2, 0, 1);
        CHECKS.asks("23: then the greater for 2", late, x -> x.ways(2), 1, 1, 0, 2);
        Fixture least = new Fixture("3x9;3t0z1@2;3t1z1@1;8t2z1@1;8t3z1@2;8t4z1@0", "38");
        CHECKS.asks("23: of the least SUBJECT first", least, x -> x.ways(0), 4, 1, 0);
    }

    /** What one asking has counted does not stay for the next. */
    private static void waysAgain() {
        OptionLattice x = Fixture.full().get();
        x.chooses(1, 5, false);
        for (int i = 0; i < 3; i++) {
            CHECKS.due("23: six", x.ways(0), 4);
            CHECKS.dueRow("23: six", x, 0, 1, 2, 3, 4, 5);
            CHECKS.due("23: five, 1 and 3 having three WAYS", x.ways(1), 6);
            CHECKS.dueRow("23: five", x, 0, 1, 2, 3, 4);
        }
    }

    // ---- promise 24

    private static void crowdFewerColumnsThanSubjects() {
        CHECKS.asks("24: one in none", new Fixture("3x9;0t0z1@0;1t1z1@1;2t2z1", "012"), x -> x.crowd(0), 4, 1, 0);
        CHECKS.asks("24: the first in none", new Fixture("3x9;1t1z1@1", "01"), x -> x.crowd(0), 1, 1, 0);
        CHECKS.asks("24: the last in none", new Fixture("3x9;1t1z1@1", "19"), x -> x.crowd(0), 512, 1, 0);
        CHECKS.asks("24: two in one", new Fixture("3x9;0t0z1@2;1t1z1@2;1t2z1", "01"), x -> x.crowd(0), 3, 2, 4);
        Fixture three = new Fixture("3x9;0t0z1@0;0t0z1@1;1t1z1@0;1t1z1@1;2t2z1@0;2t2z1@1", "012,01");
        CHECKS.asks("24: three in two, no two in one", three, x -> x.crowd(0), 7, 3, 3);
        CHECKS.leaves("24: two in two", three, x -> x.crowd(1), -2);
        String ring = "6x9";
        for (int s = 0; s < 5; s++) {
            ring += ";" + s + "t" + s + "z1@" + s + ";" + s + "t" + s + "z1@" + (s + 1) % 5;
        }
        Fixture six = new Fixture(ring + ";9t9z1@0;9t9z1@2", "012349,01239");
        CHECKS.asks("24: six in five, no fewer", six, x -> x.crowd(0), 543, 6, 31);
        CHECKS.leaves("24: five in five", six, x -> x.crowd(1), -2);
        CHECKS.asks("24: one COLUMN for two", new Fixture("1x9;0t0z1@0;1t1z1@0", "01"), x -> x.crowd(0), 3, 2, 1);
    }

    private static void crowdFewestThenLeast() {
        Fixture both = new Fixture("4x9;0t0z1@0;1t1z1@0;2t2z1@1;3t3z1@1;4t4z1@1;4t5z1@0;5t6z1", "0123,0234,1234,02345,015,45");
        CHECKS.asks("24: of two pairs the least bits", both, x -> x.crowd(0), 3, 2, 1);
        CHECKS.asks("24: a pair ahead of three", both, x -> x.crowd(1), 12, 2, 2);
        CHECKS.asks("24: without 0", both, x -> x.crowd(2), 12, 2, 2);
        CHECKS.asks("24: one ahead of a pair, though of greater bits", both, x -> x.crowd(3), 32, 1, 0);
        CHECKS.asks("24: one ahead of a pair", both, x -> x.crowd(4), 32, 1, 0);
        CHECKS.asks("24: of who has but one in the way", both, x -> x.crowd(5), 32, 1, 0);
        CHECKS.asks("24: of all without SECTIONS the first", new Fixture("4x9", "456789"), x -> x.crowd(0), 16, 1, 0);
    }

    private static void crowdOfWhoFits() {
        CHECKS.leaves("24: FITS", USUAL, x -> x.crowd(4), -2);
        CHECKS.asks("24: does not", USUAL, x -> x.crowd(5), 16, 1, 0);
        CHECKS.leaves("24: no such", USUAL, x -> x.crowd(6), -1);
    }

    // ---- promise 25

    private static void setsOneToSix() {
        int[] many = {10, 45, 120, 210, 252, 210};
        Fixture none = new Fixture("4x5", "");
        for (int k = 1; k <= 6; k++) {
            int size = k;
            CHECKS.asks("25: sets(" + k + ") of nothing", none, x -> x.sets(size), 0, many[k - 1], (1 << k) - 1);
        }
        for (int k : new int[] {LEAST, -6, -1, 0, 7, 8, 10, 33, 257, GREATEST}) {
            CHECKS.leaves("25: sets(" + k + ")", USUAL, x -> x.sets(k), -1);
        }
        Fixture one = new Fixture("6x9;9t9z1@5", "");
        CHECKS.asks("25: one SUBJECT", one, x -> x.sets(1), 1, 10, 1);
        Fixture six = new Fixture(sections("6x9", 6, ";#t#z1@~"), "");
        CHECKS.asks("25: six of six COLUMNS", six, x -> x.sets(6), 1, 210, 95);
        CHECKS.asks("25: five of them", six, x -> x.sets(5), 6, 252, 79);
    }

    private static void setsFirstWithout() {
        String ring = "6x9";
        for (int s = 0; s < 6; s++) {
            ring += ";" + s + "t" + s + "z1@" + s + ";" + s + "t" + s + "z1@" + (s + 1) % 6;
        }
        // 0 to 5 in two COLUMNS each, 6 to 9 in COLUMNS 0 to 3: only two of these and what lies in both their COLUMNS crowd.
        Fixture all = new Fixture(ring + ";6t6z1@0;7t7z1@1;8t8z1@2;9t9z1@3", "");
        CHECKS.asks("25: all have one", all, x -> x.sets(1), 10, 10, -1);
        CHECKS.asks("25: all pairs have one", all, x -> x.sets(2), 45, 45, -1);
        CHECKS.asks("25: but for three", all, x -> x.sets(3), 117, 120, 193);
        CHECKS.asks("25: without 9", new Fixture(ring + ";6t6z1@0;7t7z1@1;8t8z1@2;9t9z1", ""), x -> x.sets(1), 9, 10, 512);
        CHECKS.asks("25: 8 with 9", new Fixture(ring + ";6t6z1@0;7t7z1@1;8t8z1@2;9t9z1@2", ""), x -> x.sets(2), 44, 45, 768);
    }

    // ---- promise 26

    private static void bothNobodyAndAll() {
        CHECKS.asks("26: nobody", USUAL, x -> x.both(8, 9), 0, 0, 0);
        CHECKS.asks("26: one of them alone", USUAL, x -> x.both(0, 9), 0, 0, 0);
        CHECKS.asks("26: who does not FIT", USUAL, x -> x.both(0, 2), 20, 2, 1);
        CHECKS.asks("26: the other way round", USUAL, x -> x.both(2, 0), 20, 2, 1);
        CHECKS.asks("26: all 24, who FIT", Fixture.full(), x -> x.both(5, 0), ALL_PUPILS, 24, 0);
        Fixture none = new Fixture("1x1", Fixture.pupils(24, "09"));
        CHECKS.asks("26: all 24, who do not FIT", none, x -> x.both(0, 9), ALL_PUPILS, 24, 24);
        CHECKS.asks("26: no PUPILS", new Fixture("1x1", ""), x -> x.both(0, 9), 0, 0, 0);
    }

    private static void bothOfOne() {
        for (int s = 0; s < 10; s++) {
            int subject = s;
            CHECKS.leaves("26: they are one", USUAL, x -> x.both(subject, subject), -1);
        }
        CHECKS.leaves("26: no such", USUAL, x -> x.both(LEAST, GREATEST), -1);
    }

    // ---- promise 27

    private static void clashInOneColumnAlone() {
        CHECKS.asks("27: the same one", new Fixture("2x9;0t0z1@1;1t1z1@1", "01"), x -> x.clash(), 1, 1, 1);
        CHECKS.leaves("27: unlike ones", new Fixture("2x9;0t0z1@0;1t1z1@1", "01"), x -> x.clash(), -2);
        CHECKS.leaves("27: the same two", new Fixture("2x9;0t0z1@0;0t0z1@1;1t1z1@0;1t1z1@1", "01"), x -> x.clash(), -2);
        CHECKS.leaves("27: one of them in two", new Fixture("2x9;0t0z1@0;1t1z1@0;1t1z1@1", "01"), x -> x.clash(), -2);
        CHECKS.asks("27: two SECTIONS, one COLUMN", new Fixture("2x9;0t0z1@0;1t1z1@0;1t2z1@0", "01"), x -> x.clash(), 1, 1, 0);
        CHECKS.asks("27: one more is OUT", new Fixture("2x9;0t0z1@0;1t1z1@0;1t2z1", "01"), x -> x.clash(), 1, 1, 0);
        CHECKS.leaves("27: both OUT, in no COLUMN", new Fixture("2x9;0t0z1;1t1z1", "01"), x -> x.clash(), -2);
        CHECKS.leaves("27: no SECTIONS", new Fixture("2x9", "01"), x -> x.clash(), -2);
        CHECKS.asks("27: the last ones", new Fixture("6x9;8t0z1@5;9t1z1@5", "0,89"), x -> x.clash(), 89, 1, 5);
    }

    private static void clashOfEqualOnes() {
        String desk = "3x9;0t0z1@2;1t1z1@1;2t2z1@1;3t3z1@2;4t4z1@2";
        CHECKS.asks("27: of equal ones the first", new Fixture(desk, "34,12,03"), x -> x.clash(), 3, 1, 2);
        CHECKS.asks("27: of equal ones with one lesser", new Fixture(desk, "04,03"), x -> x.clash(), 3, 1, 2);
        CHECKS.asks("27: most, though later", new Fixture(desk, "34,12,03,12"), x -> x.clash(), 12, 2, 1);
        CHECKS.asks("27: most, the last", new Fixture(desk, "34,12,03,0134,34"), x -> x.clash(), 34, 3, 2);
        CHECKS.asks("27: all 24", new Fixture(desk, Fixture.pupils(24, "34")), x -> x.clash(), 34, 24, 2);
    }

    private static void clashOfNobody() {
        String desk = "1x9;0t0z1@0;1t1z1@0";
        CHECKS.leaves("27: nobody chose both", new Fixture(desk, "0,1,02,12"), x -> x.clash(), -2);
        CHECKS.leaves("27: no PUPILS", new Fixture(desk, ""), x -> x.clash(), -2);
        CHECKS.asks("27: one did", new Fixture(desk, "0,1,02,12,012"), x -> x.clash(), 1, 1, 0);
    }
}
