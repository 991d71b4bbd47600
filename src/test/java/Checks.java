import java.util.function.Supplier;
import java.util.function.ToLongFunction;

/** What the tests share: answers compared with those due, and texts told by signs. */
final class Checks {
    private int checked = 0;
    private int wrong = 0;

    void due(String call, long got, long want) {
        checked++;
        if (got != want) {
            wrong++;
            System.out.println(call + " answered " + got + ", due is " + want);
        }
    }

    void due(String call, boolean got, boolean want) {
        due(call, got ? 1 : 0, want ? 1 : 0);
    }

    void dueRow(String call, OptionLattice x, long... want) {
        due(call + ": numbers of the ROW", x.count(7), want.length);
        for (int i = 0; i < want.length && i < x.count(7); i++) {
            due(call + ": row(" + i + ")", x.row(i), want[i]);
        }
    }

    void dueLook(String call, String got, String want) {
        checked++;
        if (!got.equals(want)) {
            wrong++;
            System.out.println(call + " shows\n" + got + "due is\n" + want);
        }
    }

    /** The answer is the one due, and all is as it was: the state, THE TEXT, the ROW. */
    void leaves(String call, Supplier<OptionLattice> made, ToLongFunction<OptionLattice> calls, long want) {
        OptionLattice x = made.get();
        due(call, calls.applyAsLong(x), want);
        dueLook(call + " leaves all: it", Look.all(x), Look.all(made.get()));
    }

    /** The answer and the ROW are those due, and all else is as it was. */
    void asks(String call, Supplier<OptionLattice> made, ToLongFunction<OptionLattice> calls, long want, long... row) {
        tells(call, made, calls, want, made, row);
    }

    /** The answer and the ROW are those due, the state is then like that of another object, THE TEXT as it was. */
    void tells(String call, Supplier<OptionLattice> made, ToLongFunction<OptionLattice> calls, long want,
        Supplier<OptionLattice> then, long... row) {
        OptionLattice x = made.get();
        due(call, calls.applyAsLong(x), want);
        dueRow(call, x, row);
        dueLook(call + ": the state", Look.state(x), Look.state(then.get()));
        dueLook(call + ": THE TEXT", Look.text(x), Look.text(made.get()));
    }

    /** The answer is the one due, the state is then like that of another object, THE TEXT and the ROW as they were. */
    void changes(String call, Supplier<OptionLattice> made, ToLongFunction<OptionLattice> calls, long want,
        Supplier<OptionLattice> then) {
        OptionLattice x = made.get();
        due(call, calls.applyAsLong(x), want);
        dueLook(call + ": the ROW", Look.row(x), Look.row(made.get()));
        dueLook(call + ": the state", Look.state(x), Look.state(then.get()));
        dueLook(call + ": THE TEXT", Look.text(x), Look.text(made.get()));
    }

    /** Exit code 1 if an answer was not the one due. */
    void close(String name) {
        System.out.println(name + ": " + checked + " answers, " + wrong + " not as due");
        if (wrong != 0 || checked == 0) {
            System.exit(1);
        }
    }

    int wrong() {
        return wrong;
    }

    /** Puts signs behind THE TEXT, which must have a multiple of four of them left to 240, or be cut short. */
    static void tell(OptionLattice x, String signs) {
        int before = x.count(8);
        for (int i = 0; i < signs.length(); i += 4) {
            int v = 0;
            for (int j = i; j < i + 4; j++) {
                v = v << 8 | (j < signs.length() ? signs.charAt(j) : 0);
            }
            x.sign(v);
        }
        x.end(before + signs.length());
    }

    static int desk(OptionLattice x, String signs) {
        tell(x, signs);
        return x.desk();
    }

    static int pupils(OptionLattice x, String signs) {
        tell(x, signs);
        return x.pupils();
    }

    static OptionLattice made(String desk, String pupils) {
        OptionLattice x = new OptionLattice();
        if (desk(x, desk) < 0 || pupils(x, pupils) < 0) {
            throw new IllegalStateException("a test tells a text that is refused: " + desk + " " + pupils);
        }
        return x;
    }
}
