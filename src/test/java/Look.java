import java.util.NoSuchElementException;

/**
 * All that an object shows, as texts, so that two objects can be compared by other calls than the one in question.
 * Looking asks for the ROW first, then for the state, then for THE TEXT, since each look may spoil the one before.
 */
final class Look {
    private Look() {
    }

    static String all(OptionLattice x) {
        return row(x) + state(x) + text(x);
    }

    static String row(OptionLattice x) {
        StringBuilder t = new StringBuilder("ROW");
        for (int i = 0; i < x.count(7); i++) {
            t.append(' ').append(x.row(i));
        }
        try {
            t.append(" and behind it ").append(x.row(x.count(7)));
        } catch (NoSuchElementException e) {
            t.append('.');
        }
        return t.append('\n').toString();
    }

    /** Asks of PUPILS tell the ROW, and BARS show only by being told: neither changes what is looked at later. */
    static String state(OptionLattice x) {
        StringBuilder t = new StringBuilder("counts");
        for (int what : new int[] {0, 1, 2, 3, 4, 5, 6, 9}) {
            t.append(' ').append(x.count(what));
        }
        for (int s = 0; s < x.count(2); s++) {
            t.append("\nSECTION ").append(s);
            for (int what = 0; what < 4; what++) {
                t.append(' ').append(x.section(s, what));
            }
        }
        for (int p = 0; p < x.count(4); p++) {
            t.append("\nPUPIL ").append(p).append(' ').append(x.pupil(p)).append(' ').append(x.row(0)).append(' ').append(x.row(1));
        }
        return t.append('\n').append(bars(x)).toString();
    }

    private static String bars(OptionLattice x) {
        StringBuilder t = new StringBuilder("BARS");
        for (int teacher = 0; teacher < 10; teacher++) {
            t.append(" (").append(teacher);
            for (int column = 0; column < x.count(0); column++) {
                int answer = x.bars(teacher, column, true);
                t.append(answer == -2 ? " barred" : answer == -3 ? " taught" : " free");
            }
            t.append(')');
        }
        return t.append('\n').toString();
    }

    static String text(OptionLattice x) {
        StringBuilder t = new StringBuilder("THE TEXT ").append(x.count(8)).append(" signs, as a desk ").append(x.desk());
        for (int what = 0; what < 4; what++) {
            t.append(' ').append(x.count(what));
        }
        for (int what = 0; what < 4; what++) {
            t.append(' ').append(x.section(0, what));
        }
        return t.append('\n').toString();
    }
}
