import java.util.function.ToLongFunction;

/** Boundary by boundary: what 'Terms' 1 and 2 say for all promises, and promise 1. */
public final class BoundsTermsTest {
    private static final int LEAST = Integer.MIN_VALUE;
    private static final int GREATEST = Integer.MAX_VALUE;
    private static final Checks CHECKS = new Checks();

    /** A call with one argument that varies. */
    private interface Call {
        long on(OptionLattice x, int v);
    }

    private BoundsTermsTest() {
    }

    public static void main(String[] args) {
        atFirst();
        columnsOneToSix();
        legalByTeacher();
        legalByBars();
        legalByRooms();
        ownColumnIsLegalAlways();
        fitsWithAWay();
        held();
        noSuchSection();
        noSuchColumn();
        noSuchSubject();
        noSuchTeacher();
        noSuchPupil();
        noSuchNumber();
        noSuchOfNone();
        asksChangeOnlyTheRow();
        rowStaysWithCallsThatDoNotTell();
        rowStaysBelowNought();
        rowIsToldWhereSuchANumberIsMeant();
        noneComesFirst();
        isSoComesAheadOfMayNot();
        CHECKS.close("BoundsTermsTest");
    }

    private static void due(String call, long got, long want) {
        CHECKS.due(call, got, want);
    }

    // ---- promise 1 and term 1

    private static void atFirst() {
        OptionLattice x = new OptionLattice();
        int[] counts = {4, 5, 0, 0, 0, 0, 0, 0, 0, 0};
        for (int what = 0; what < counts.length; what++) {
            due("1: count(" + what + ")", x.count(what), counts[what]);
        }
        due("1: no SECTION", x.section(0, 0), -1);
        due("1: no PUPIL", x.pupil(0), -1);
        for (int teacher = 0; teacher < 10; teacher++) {
            for (int column = 0; column < 4; column++) {
                due("1: no BARS", x.bars(teacher, column, false), -2);
            }
        }
        due("1: COLUMN 3", x.column(3), 0);
        due("1: no COLUMN 4", x.column(4), -1);
        for (int t = 0; t < 6; t++) {
            due("1: opens", x.opens(0, t, 1), t);
        }
        for (int t = 0; t < 5; t++) {
            due("1: five ROOMS", x.puts(t, 0), 0);
        }
        due("1: no sixth ROOM", x.puts(5, 0), -3);
        due("1: which is why", x.why(5, 0), 3);
    }

    private static void columnsOneToSix() {
        for (int n = 1; n <= 6; n++) {
            OptionLattice x = Checks.made(n + "x9;0t0z1", "0");
            due("n", x.count(0), n);
            for (int column = 0; column < n; column++) {
                due("a COLUMN", x.column(column), 0);
                due("no other reason", x.why(0, column), 0);
            }
            due("no such COLUMN", x.column(n), -1);
            due("all are LEGAL, and no others", x.legal(0), (1 << n) - 1);
            due("the last one", x.puts(0, n - 1), 1);
            due("behind the last one", x.puts(0, n), -1);
            due("BARS behind the last one", x.bars(5, n, true), -1);
            due("BARS in the last one", x.bars(5, n - 1, true), 1 << n - 1);
        }
    }

    private static void legalByTeacher() {
        OptionLattice x = Checks.made("3x9;0t4z1@0;1t4z1@2;2t4z1;2t5z1", "");
        due("where its TEACHER has no other", x.legal(2), 0b010);
        due("another TEACHER", x.legal(3), 0b111);
        due("its own, and where there is none", x.legal(0), 0b011);
        x.takes(1);
        due("an OUT one is in no COLUMN", x.legal(2), 0b110);
        x.closes(0);
        due("nor is one that went", x.legal(1), 0b111);
    }

    private static void legalByBars() {
        OptionLattice x = Checks.made("3x9;b402;0t4z1;1t5z1", "");
        due("none of the BARS", x.legal(0), 0b010);
        due("BARS of another TEACHER", x.legal(1), 0b111);
        x.bars(4, 0, false);
        due("one less", x.legal(0), 0b011);
        x.bars(4, 0, true);
        x.bars(4, 1, true);
        due("all", x.legal(0), 0);
        due("may not", x.puts(0, 1), -3);
    }

    private static void legalByRooms() {
        for (int m = 1; m <= 9; m++) {
            StringBuilder desk = new StringBuilder("2x").append(m);
            for (int t = 0; t < m; t++) {
                desk.append(";0t").append(t).append("z1");
            }
            OptionLattice x = Checks.made(desk + ";1t9z1", "1");
            for (int t = 0; t < m; t++) {
                due("fewer than ROOMS are there", x.legal(m), 3);
                due("a COLUMN that is not full", x.count(6), 0);
                x.puts(t, 1);
            }
            due("as many as ROOMS are there", x.legal(m), 1);
            due("a full COLUMN", x.count(6), 2);
            due("may not", x.puts(m, 1), -3);
            due("where nothing is", x.puts(m, 0), 1);
        }
    }

    private static void ownColumnIsLegalAlways() {
        OptionLattice x = Checks.made("2x1;0t0z1@0;0t1z1@1;1t2z1", "");
        due("own one, though full", x.legal(0), 0b01);
        due("own one, though full", x.legal(1), 0b10);
        due("no own one", x.legal(2), 0);
        due("no reason", x.why(0, 0), 0);
        due("another's", x.why(0, 1), 3);
        x.bars(0, 1, true);
        due("own one with BARS elsewhere", x.legal(0), 0b01);
        due("BARS never come to it", x.bars(0, 0, true), -3);
        due("ROOMS never get fewer", x.rooms(1), 1);
        due("own one still", x.legal(0), 0b01);
        due("nor is it a move", x.puts(0, 0), -2);
        due("nor a gain", x.gain(0, 0), -1000);
    }

    private static void fitsWithAWay() {
        OptionLattice x = Checks.made("3x9;0t0z1@0;1t1z1@0;2t2z1@1;2t3z1@1;3t4z1", "0,01,02,2,3,012,4");
        int[] fit = {1, 0, 1, 1, 0, 0, 0};
        for (int p = 0; p < fit.length; p++) {
            x.pupil(p);
            due("FITS " + p, x.row(0), fit[p]);
        }
        due("FIT", x.fits(), 3);
        x.puts(1, 2);
        due("COLUMNS are unlike now", x.fits(), 5);
        CHECKS.dueRow("FIT", x, 0b0101111);
    }

    private static void held() {
        String desk = "2x9;0t0z1@0;1t1z1@1;2t2z1@1";
        String pupils = "01,12,12,12";
        CHECKS.asks("who is not KEPT may lose", new Fixture(desk, pupils + ",02,02"), x -> x.best(), 100, 5);
        CHECKS.asks("who is KEPT and FITS may not", new Fixture(desk, pupils + ",02,02", 0), x -> x.best(), 200, 4);
        CHECKS.leaves("nor the other one", new Fixture(desk, pupils + ",02,02", 0, 5), x -> x.best(), -2);
        CHECKS.asks("who is KEPT and does not FIT holds nothing", new Fixture(desk, pupils + ",02,02", 1, 2, 3), x -> x.best(), 100, 5);
        CHECKS.asks("who is KEPT and FITS then, too, holds nothing", new Fixture(desk, pupils + ",02,02,0,1,2", 6, 7, 8),
            x -> x.best(), 100, 8);
    }

    // ---- term 2: no such

    private static void noSuch(String name, Fixture made, int many, Call call) {
        int[] wrong = {
            LEAST, LEAST + 1, -65536, -256, -32, -16, -2, -1, many, many + 1, 32, 33, 64, 256, 1024, 65536, GREATEST - 1, GREATEST,
        };
        for (int v : wrong) {
            CHECKS.leaves(name + " of " + v, made, x -> call.on(x, v), -1);
        }
        CHECKS.due(name + " of " + (many - 1) + " is one", call.on(made.get(), many - 1) != -1, true);
        CHECKS.due(name + " of 0 is one", call.on(made.get(), 0) != -1, true);
    }

    private static void noSuchSection() {
        Call[] calls = {
            (x, v) -> x.closes(v), (x, v) -> x.seats(v, 1), (x, v) -> x.puts(v, 0), (x, v) -> x.takes(v),
            (x, v) -> x.swaps(v, 1), (x, v) -> x.swaps(1, v), (x, v) -> x.section(v, 0), (x, v) -> x.section(v, 1),
            (x, v) -> x.section(v, 2), (x, v) -> x.section(v, 3), (x, v) -> x.legal(v), (x, v) -> x.why(v, 0),
            (x, v) -> x.gain(v, 0), (x, v) -> x.sits(v), (x, v) -> x.wants(v),
        };
        for (int i = 0; i < calls.length; i++) {
            noSuch("no such SECTION, call " + i, Fixture.usual(), 6, calls[i]);
            noSuch("no such SECTION of 16, call " + i, Fixture.full(), 16, calls[i]);
        }
    }

    private static void noSuchColumn() {
        Call[] calls = {
            (x, v) -> x.puts(2, v), (x, v) -> x.bars(9, v, true), (x, v) -> x.bars(9, v, false), (x, v) -> x.column(v),
            (x, v) -> x.why(0, v), (x, v) -> x.gain(5, v),
        };
        for (int i = 0; i < calls.length; i++) {
            noSuch("no such COLUMN, call " + i, Fixture.usual(), 4, calls[i]);
            noSuch("no such COLUMN of 6, call " + i, Fixture.full(), 6, calls[i]);
        }
        noSuch("no such COLUMN of one", new Fixture("1x1;0t0z1@0", "0"), 1, (x, v) -> x.column(v));
    }

    private static void noSuchSubject() {
        Call[] calls = {
            (x, v) -> x.opens(v, 0, 1), (x, v) -> x.chooses(0, v, true), (x, v) -> x.chooses(0, v, false),
            (x, v) -> x.subject(v), (x, v) -> x.both(v, 5), (x, v) -> x.both(5, v), (x, v) -> x.splits(v, 9),
        };
        for (int i = 0; i < calls.length; i++) {
            noSuch("no such SUBJECT, call " + i, Fixture.usual(), 10, calls[i]);
        }
    }

    private static void noSuchTeacher() {
        Call[] calls = {
            (x, v) -> x.opens(0, v, 1), (x, v) -> x.bars(v, 3, true), (x, v) -> x.bars(v, 3, false), (x, v) -> x.splits(0, v),
        };
        for (int i = 0; i < calls.length; i++) {
            noSuch("no such TEACHER, call " + i, Fixture.usual(), 10, calls[i]);
        }
    }

    private static void noSuchPupil() {
        Call[] calls = {
            (x, v) -> x.chooses(v, 9, true), (x, v) -> x.chooses(v, 0, false), (x, v) -> x.keeps(v, true),
            (x, v) -> x.keeps(v, false), (x, v) -> x.pupil(v), (x, v) -> x.ways(v), (x, v) -> x.crowd(v),
            (x, v) -> x.cures(v), (x, v) -> x.instead(v),
        };
        for (int i = 0; i < calls.length; i++) {
            noSuch("no such PUPIL, call " + i, Fixture.usual(), 6, calls[i]);
            noSuch("no such PUPIL of 24, call " + i, Fixture.full(), 24, calls[i]);
        }
    }

    /** Numbers that have bounds of their own: SEATS, ROOMS, what, k. */
    private static void noSuchNumber() {
        noSuch("another what of section()", Fixture.usual(), 4, (x, v) -> x.section(0, v));
        noSuch("another what of count()", Fixture.usual(), 10, (x, v) -> x.count(v));
        noSuch("other SEATS of opens()", Fixture.usual(), 30, (x, v) -> x.opens(0, 0, next(v)));
        noSuch("other SEATS of seats()", Fixture.usual(), 30, (x, v) -> x.seats(0, next(v)));
        noSuch("other ROOMS", Fixture.usual(), 9, (x, v) -> x.rooms(next(v)));
        noSuch("another k of sets()", Fixture.usual(), 6, (x, v) -> x.sets(next(v)));
        noSuch("another k of climbs()", Fixture.usual(), 30, (x, v) -> x.climbs(next(v)));
    }

    /** For numbers that begin with 1; the least and the greatest int stay what they are. */
    private static int next(int v) {
        return v == LEAST || v == GREATEST ? v : v + 1;
    }

    private static void noSuchOfNone() {
        Fixture none = new Fixture("4x5", "");
        for (int v : new int[] {LEAST, -1, 0, 1, GREATEST}) {
            CHECKS.leaves("of no SECTIONS: closes()", none, x -> x.closes(v), -1);
            CHECKS.leaves("of no SECTIONS: seats()", none, x -> x.seats(v, 1), -1);
            CHECKS.leaves("of no SECTIONS: puts()", none, x -> x.puts(v, 0), -1);
            CHECKS.leaves("of no SECTIONS: takes()", none, x -> x.takes(v), -1);
            CHECKS.leaves("of no SECTIONS: swaps()", none, x -> x.swaps(v, v), -1);
            CHECKS.leaves("of no SECTIONS: section()", none, x -> x.section(v, 3), -1);
            CHECKS.leaves("of no SECTIONS: legal()", none, x -> x.legal(v), -1);
            CHECKS.leaves("of no SECTIONS: why()", none, x -> x.why(v, 0), -1);
            CHECKS.leaves("of no SECTIONS: gain()", none, x -> x.gain(v, 0), -1);
            CHECKS.leaves("of no SECTIONS: sits()", none, x -> x.sits(v), -1);
            CHECKS.leaves("of no SECTIONS: wants()", none, x -> x.wants(v), -1);
            CHECKS.leaves("of no PUPILS: chooses()", none, x -> x.chooses(v, 0, true), -1);
            CHECKS.leaves("of no PUPILS: keeps()", none, x -> x.keeps(v, true), -1);
            CHECKS.leaves("of no PUPILS: pupil()", none, x -> x.pupil(v), -1);
            CHECKS.leaves("of no PUPILS: ways()", none, x -> x.ways(v), -1);
            CHECKS.leaves("of no PUPILS: crowd()", none, x -> x.crowd(v), -1);
            CHECKS.leaves("of no PUPILS: cures()", none, x -> x.cures(v), -1);
            CHECKS.leaves("of no PUPILS: instead()", none, x -> x.instead(v), -1);
        }
    }

    // ---- term 2: what stays

    private static void asksChangeOnlyTheRow() {
        Fixture usual = Fixture.usual();
        CHECKS.asks("column", usual, x -> x.column(1), 0b1110, 3, 0b111);
        CHECKS.asks("subject", usual, x -> x.subject(0), 3, 2, 4, 3);
        CHECKS.asks("pupil", usual, x -> x.pupil(3), 9, 1, 1);
        CHECKS.asks("legal", usual, x -> x.legal(5), 13, 3);
        CHECKS.asks("fits", usual, x -> x.fits(), 3, 25);
        CHECKS.asks("ways", usual, x -> x.ways(3), 2, 0, 2);
        CHECKS.asks("crowd", usual, x -> x.crowd(2), 6, 2, 2);
        CHECKS.asks("sets", usual, x -> x.sets(3), 2, 120, 7);
        CHECKS.asks("both", usual, x -> x.both(0, 3), 24, 2, 0);
        CHECKS.asks("clash", usual, x -> x.clash(), 12, 2, 1);
        CHECKS.asks("gain", usual, x -> x.gain(2, 2), 2, 6, 0);
        CHECKS.asks("best", usual, x -> x.best(), 202, 5);
        CHECKS.asks("exchange", usual, x -> x.exchange(), 304, 5);
        CHECKS.asks("splits", usual, x -> x.splits(4, 4), 0, 4);
        CHECKS.asks("cures", usual, x -> x.cures(1), 1, 200);
        CHECKS.asks("instead", usual, x -> x.instead(1), 4, 10);
        CHECKS.asks("spare", usual, x -> x.spare(), 0b100010, 1);
        CHECKS.asks("seated", usual, x -> x.seated(false), 2, 9);
        CHECKS.asks("sits", usual, x -> x.sits(4), 8, 2);
        CHECKS.asks("lacking", usual, x -> x.lacking(), 16, 4, -1);
    }

    private static void stays(String call, ToLongFunction<OptionLattice> calls, long want) {
        OptionLattice x = Fixture.usual().get();
        due(call, calls.applyAsLong(x), want);
        CHECKS.dueLook(call + ": the ROW", Look.row(x), Look.row(Fixture.usual().get()));
    }

    private static void rowStaysWithCallsThatDoNotTell() {
        stays("sign", x -> x.sign(0), 16);
        stays("end", x -> x.end(3) ? 1 : 0, 1);
        stays("desk", x -> x.desk(), 1);
        stays("pupils", x -> x.end(1) ? x.pupils() : 0, 1);
        stays("opens", x -> x.opens(9, 9, 9), 6);
        stays("closes", x -> x.closes(0), 5);
        stays("seats", x -> x.seats(0, 9), 2);
        stays("puts", x -> x.puts(2, 2), 5);
        stays("takes", x -> x.takes(2), 2);
        stays("swaps", x -> x.swaps(0, 1), 3);
        stays("bars", x -> x.bars(9, 0, true), 1);
        stays("rooms", x -> x.rooms(9), 3);
        stays("chooses", x -> x.chooses(0, 9, true), 515);
        stays("keeps", x -> x.keeps(0, true), 3);
        stays("section", x -> x.section(2, 2), 2);
        stays("section, OUT", x -> x.section(5, 3), -2);
        stays("why", x -> x.why(5, 1), 3);
        stays("wants", x -> x.wants(0), 1);
        stays("count", x -> x.count(2), 6);
        stays("row", x -> x.row(0), 45);
    }

    private static void rowStaysBelowNought() {
        Fixture usual = Fixture.usual();
        stays("desk", x -> x.end(2) ? x.desk() : 0, -23);
        stays("pupils", x -> x.end(2) ? x.pupils() : 0, -22);
        CHECKS.leaves("puts", usual, x -> x.puts(0, 0), -2);
        CHECKS.leaves("puts", usual, x -> x.puts(5, 1), -3);
        CHECKS.leaves("takes", usual, x -> x.takes(5), -2);
        CHECKS.leaves("swaps", usual, x -> x.swaps(2, 3), -2);
        CHECKS.leaves("swaps", usual, x -> x.swaps(0, 2), -3);
        CHECKS.leaves("bars", usual, x -> x.bars(0, 3, false), -2);
        CHECKS.leaves("bars", usual, x -> x.bars(0, 0, true), -3);
        CHECKS.leaves("rooms", usual, x -> x.rooms(2), -3);
        CHECKS.leaves("chooses", usual, x -> x.chooses(0, 0, true), -2);
        CHECKS.leaves("keeps", usual, x -> x.keeps(1, true), -2);
        CHECKS.leaves("crowd", usual, x -> x.crowd(0), -2);
        CHECKS.leaves("both", usual, x -> x.both(1, 1), -1);
        CHECKS.leaves("gain", usual, x -> x.gain(2, 1), -1000);
        CHECKS.leaves("gain", usual, x -> x.gain(5, 1), -1000);
        CHECKS.leaves("instead", usual, x -> x.instead(0), -2);
        Fixture dull = new Fixture("1x1;0t0z1@0;1t1z1", "01");
        CHECKS.leaves("opens", Fixture.full(), x -> x.opens(0, 0, 1), -2);
        CHECKS.leaves("chooses", Fixture.full(), x -> x.chooses(0, 9, true), -3);
        CHECKS.leaves("clash", dull, x -> x.clash(), -2);
        CHECKS.leaves("best", dull, x -> x.best(), -2);
        CHECKS.leaves("exchange", dull, x -> x.exchange(), -2);
        CHECKS.leaves("splits", dull, x -> x.splits(0, 0), -2);
        CHECKS.leaves("cures", dull, x -> x.cures(0), -2);
        CHECKS.leaves("wants", new Fixture("1x9;0t0z1@0;1t1z1@0", "0,0"), x -> x.wants(1), -2);
    }

    private static void rowIsToldWhereSuchANumberIsMeant() {
        Fixture usual = Fixture.usual();
        CHECKS.asks("gain of one less", usual, x -> x.gain(0, 2), -1, 0, 16);
        CHECKS.asks("gain of two less", new Fixture("2x9;0t0z1@0;1t1z1@1", "01,01,0"), x -> x.gain(0, 1), -2, 0, 3);
        CHECKS.asks("gain of three less", new Fixture("2x9;0t0z1@0;1t1z1@1", "01,01,01,1"), x -> x.gain(1, 0), -3, 0, 7);
        CHECKS.asks("ways of none", usual, x -> x.ways(1), 0);
        CHECKS.asks("cures of none", usual, x -> x.cures(0), 0);
        CHECKS.asks("instead of none", new Fixture("1x1", "0"), x -> x.instead(0), 0, -1);
        CHECKS.asks("climbs of none", new Fixture("1x1", "0"), x -> x.climbs(30), 0, 0);
    }

    // ---- term 2: which of several answers below 0 comes first

    private static void noneComesFirst() {
        Fixture full = Fixture.full();
        CHECKS.leaves("opens, of 16", full, x -> x.opens(10, 0, 1), -1);
        CHECKS.leaves("opens, of 16", full, x -> x.opens(0, 10, 1), -1);
        CHECKS.leaves("opens, of 16", full, x -> x.opens(0, 0, 31), -1);
        CHECKS.leaves("opens, of 16", full, x -> x.opens(0, 0, 0), -1);
        CHECKS.leaves("swaps, twice the same", full, x -> x.swaps(16, 16), -1);
        CHECKS.leaves("both, twice the same", full, x -> x.both(10, 10), -1);
        CHECKS.leaves("chooses, more than 6", full, x -> x.chooses(0, 10, true), -1);
        CHECKS.leaves("section, OUT", full, x -> x.section(16, 3), -1);
        Fixture usual = Fixture.usual();
        CHECKS.leaves("rooms, more are there", usual, x -> x.rooms(0), -1);
        CHECKS.leaves("rooms, more are there", usual, x -> x.rooms(-1), -1);
        CHECKS.leaves("rooms, more are there", usual, x -> x.rooms(LEAST), -1);
        CHECKS.leaves("bars, of no such COLUMN", usual, x -> x.bars(0, 4, false), -1);
        CHECKS.leaves("gain, of no such COLUMN", usual, x -> x.gain(0, -1), -1);
        CHECKS.leaves("gain, of an OUT one to no COLUMN", usual, x -> x.gain(5, -1), -1);
        CHECKS.leaves("puts, of an OUT one to no COLUMN", usual, x -> x.puts(5, -1), -1);
        CHECKS.leaves("chooses, none left", new Fixture("1x1", "0"), x -> x.chooses(0, -1, false), -1);
        Fixture barred = new Fixture("1x1;b00", "0");
        CHECKS.leaves("splits, none LEGAL", barred, x -> x.splits(0, 0), -2);
        CHECKS.leaves("splits, none LEGAL, no such SUBJECT", barred, x -> x.splits(10, 0), -1);
    }

    private static void isSoComesAheadOfMayNot() {
        CHECKS.leaves("swaps in one full COLUMN of one ROOM", new Fixture("2x1;0t0z1@0;1t1z1", ""), x -> x.swaps(0, 0), -2);
        CHECKS.leaves("puts where it is, full", new Fixture("2x1;0t0z1@0", ""), x -> x.puts(0, 0), -2);
        CHECKS.leaves("chooses what it has of 6", new Fixture("1x1", "012345"), x -> x.chooses(0, 5, true), -2);
        CHECKS.leaves("chooses what it has not of 6", new Fixture("1x1", "012345"), x -> x.chooses(0, 6, false), -2);
        CHECKS.leaves("chooses what it has of one", new Fixture("1x1", "0"), x -> x.chooses(0, 0, true), -2);
        CHECKS.leaves("chooses what it has not of one", new Fixture("1x1", "0"), x -> x.chooses(0, 1, false), -2);
        CHECKS.leaves("bars that are not, a SECTION being there", new Fixture("1x1;0t0z1@0", ""), x -> x.bars(0, 0, false), -2);
    }
}
