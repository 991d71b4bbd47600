import java.util.function.Supplier;

/** The same object as often as it is asked for: a desk, PUPILS, KEPT ones, a ROW and a TEXT of its own. */
final class Fixture implements Supplier<OptionLattice> {
    /** 0 in COLUMNS 0 and 1 (TEACHER 0), 1 and 2 in COLUMN 1, which is full, 3 in COLUMN 2, 4 OUT. */
    static final String DESK = "4x3;0t0z2@0;0t0z1@1;1t1z2@1;2t2z2@1;3t3z3@2;4t4z1";
    /** Of these 0, 3 and 4 FIT. */
    static final String PUPILS = "01,12,012,03,023,14";
    /** What stands as THE TEXT and waits: a desk that no other one here is like. */
    static final String WAITING = "5x7;3t4z12@2";

    private final String desk;
    private final String pupils;
    private final int[] kept;

    Fixture(String desk, String pupils, int... kept) {
        this.desk = desk;
        this.pupils = pupils;
        this.kept = kept;
    }

    static Fixture usual() {
        return new Fixture(DESK, PUPILS, 1, 3);
    }

    /** As many of all as there may be: 6 COLUMNS, 9 ROOMS, 16 SECTIONS of 30 SEATS, 24 PUPILS of 6 CHOICES, who all FIT. */
    static Fixture full() {
        return new Fixture(fullDesk(), pupils(24, "012345"));
    }

    /** SECTION i is of SUBJECT and TEACHER i % 10, in COLUMN i % 6. */
    static String fullDesk() {
        StringBuilder t = new StringBuilder("6x9");
        for (int i = 0; i < 16; i++) {
            t.append(';').append(i % 10).append('t').append(i % 10).append("z30@").append(i % 6);
        }
        return t.toString();
    }

    static String pupils(int many, String choices) {
        StringBuilder t = new StringBuilder();
        for (int i = 0; i < many; i++) {
            t.append(i == 0 ? "" : ",").append(choices);
        }
        return t.toString();
    }

    /** The ROW is 45 and another number: no other call tells it so. */
    @Override
    public OptionLattice get() {
        OptionLattice x = Checks.made(desk, pupils);
        for (int p : kept) {
            x.keeps(p, true);
        }
        x.sets(2);
        Checks.tell(x, WAITING);
        return x;
    }
}
