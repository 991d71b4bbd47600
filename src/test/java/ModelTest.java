import java.util.NoSuchElementException;
import java.util.Random;

/**
 * Runs of calls, drawn by fixed seeds, on the class and on NaiveDesk: all answers and all that shows must agree.
 * An object is used for at most 512 calls, since what later calls answer is free; so each run is short, and there are many.
 */
public final class ModelTest {
    private static final int RUNS = 6000;
    private static final int MOST_CALLS = 512;
    /** What a new desk with new PUPILS takes, any other call with its looks, and the last look at all. */
    private static final int NEW_DESK_CALLS = 140;
    private static final int OTHER_CALLS = 20;
    private static final int LAST_LOOK_CALLS = 180;

    private final Checks checks;
    private final Random random;
    private final OptionLattice x = new OptionLattice();
    private final NaiveDesk y = new NaiveDesk();
    private final int run;
    private final boolean small;
    private final StringBuilder told = new StringBuilder();
    private int calls = 0;
    /** SUBJECTS in use: few enough that PUPILS choose what is there, and some FIT. */
    private int subjects = 10;

    private ModelTest(Checks checks, int run) {
        this.checks = checks;
        this.run = run;
        this.random = new Random(run);
        this.small = run % 3 == 0;
    }

    public static void main(String[] args) {
        int runs = args.length > 0 ? Integer.parseInt(args[0]) : RUNS;
        int first = args.length > 1 ? Integer.parseInt(args[1]) : 0;
        Checks checks = new Checks();
        for (int run = first; run < first + runs && checks.wrong() == 0; run++) {
            new ModelTest(checks, run).go();
        }
        checks.close("ModelTest");
    }

    private void go() {
        int before = checks.wrong();
        if (run % 3 == 1) {
            tightDesk();
        } else {
            newDesk();
            newPupils();
        }
        while (isRoomFor(OTHER_CALLS) && checks.wrong() == before) {
            call(random.nextInt(100));
        }
        lastLook();
        checks.due("calls of one object: " + calls, calls <= MOST_CALLS, true);
        if (checks.wrong() != before) {
            System.out.println("run " + run + ":\n" + told);
        }
    }

    private boolean isRoomFor(int more) {
        return calls + more + LAST_LOOK_CALLS <= MOST_CALLS;
    }

    /** The answer, the ROW, and something else that is drawn. */
    private void same(String call, long got, long want) {
        sameAnswer(call, got, want);
        sameRow();
        int what = random.nextInt(12) - 1;
        sameAnswer("count(" + what + ")", x.count(what), y.count(what));
        if (!y.sections.isEmpty()) {
            sameSection(random.nextInt(y.sections.size()), random.nextInt(4));
        }
    }

    private void sameAnswer(String call, long got, long want) {
        calls++;
        told.append(call).append(" = ").append(want).append('\n');
        checks.due(call, got, want);
    }

    private void sameRow() {
        sameAnswer("count(7)", x.count(7), y.row.size());
        for (int i = 0; i < y.row.size() && i < x.count(7); i++) {
            calls++;
            sameAnswer("row(" + i + ")", x.row(i), y.row.get(i));
        }
    }

    private void sameSection(int s, int what) {
        sameAnswer("section(" + s + ", " + what + ")", x.section(s, what), y.section(s, what));
    }

    private void lastLook() {
        sameRow();
        sameEnds();
        for (int what = 0; what < 10; what++) {
            sameAnswer("count(" + what + ")", x.count(what), y.count(what));
        }
        for (int s = 0; s < y.sections.size(); s++) {
            for (int what = 0; what < 4; what++) {
                sameSection(s, what);
            }
        }
        for (int p = 0; p < y.pupils.size(); p++) {
            sameAnswer("pupil(" + p + ")", x.pupil(p), y.pupil(p));
        }
        for (int t = 0; t < 10; t++) {
            for (int c = 0; c < y.n; c++) {
                sameAnswer("bars(" + t + ", " + c + ", true)", x.bars(t, c, true), y.bars(t, c, true));
            }
        }
    }

    private void sameEnds() {
        for (int i : new int[] {-1, y.row.size(), Integer.MAX_VALUE, Integer.MIN_VALUE}) {
            boolean thrown = false;
            try {
                x.row(i);
            } catch (NoSuchElementException e) {
                thrown = true;
            }
            sameAnswer("row(" + i + ") throws", thrown ? 1 : 0, 1);
        }
    }

    // ---- texts

    private void tell(String signs) {
        for (int i = 0; i < signs.length(); i += 4) {
            int v = 0;
            for (int j = i; j < i + 4; j++) {
                v = v << 8 | (j < signs.length() ? signs.charAt(j) : random.nextInt(256));
            }
            sameAnswer("sign(" + v + ")", x.sign(v), y.sign(v));
        }
        int length = signs.length();
        sameAnswer("end(" + length + ")", x.end(length) ? 1 : 0, y.end(length) ? 1 : 0);
    }

    private String bent(String signs, int ofHundred) {
        String t = signs;
        while (random.nextInt(100) < ofHundred) {
            String some = "0123456789xtzb@;,".charAt(random.nextInt(17)) + "";
            int at = random.nextInt(t.length() + 1);
            int kind = random.nextInt(4);
            int to = Math.min(t.length(), at + (kind == 0 ? 0 : 1));
            t = kind == 3 ? t.substring(0, at) : t.substring(0, at) + (kind == 2 ? "" : some) + t.substring(to);
        }
        return t;
    }

    private String deskText() {
        int n = 1 + random.nextInt(small ? 4 : 6);
        int rooms = 1 + random.nextInt(random.nextBoolean() ? 9 : 3);
        subjects = 1 + random.nextInt(random.nextInt(3) == 0 ? 10 : n + 1);
        int teachers = 1 + random.nextInt(10);
        StringBuilder t = new StringBuilder().append(n).append('x').append(rooms);
        int lines = random.nextInt(small ? 12 : 24);
        int[][] taken = new int[10][6];
        int[] filled = new int[6];
        boolean[] known = new boolean[10];
        for (int i = 0, sections = 0; i < lines; i++) {
            int teacher = random.nextInt(teachers);
            boolean wrong = random.nextInt(60) == 0;
            if (random.nextInt(8) == 0 && (!known[teacher] || wrong)) {
                t.append(";b").append(teacher);
                for (int c = 0; c < n; c++) {
                    if (random.nextInt(n) == 0 || taken[teacher][0] == 0 && c == n - 1 && !known[teacher]) {
                        t.append(c);
                        taken[teacher][c] = 1;
                        known[teacher] = true;
                    }
                }
            } else if (sections < 16 || wrong) {
                t.append(';').append(random.nextInt(subjects)).append('t').append(teacher).append('z');
                t.append(1 + random.nextInt(random.nextInt(3) == 0 ? 30 : 4));
                int column = random.nextInt(random.nextInt(3) == 0 ? (n + 1) / 2 : n);
                if (wrong || taken[teacher][column] == 0 && filled[column] < rooms) {
                    t.append('@').append(column);
                    taken[teacher][column] = 1;
                    filled[column]++;
                }
                known[teacher] = true;
                sections++;
            }
        }
        return t.toString();
    }

    /** One SECTION or two of each SUBJECT, crowded into few COLUMNS with few ROOMS: here two moves and HELD matter. */
    private void tightDesk() {
        int n = 2 + random.nextInt(5);
        subjects = Math.min(8, n + random.nextInt(3));
        int twice = random.nextBoolean() ? 2 : 1;
        int rooms = twice + subjects / n;
        StringBuilder t = new StringBuilder().append(n).append('x').append(rooms);
        int[] filled = new int[n];
        int[] taught = new int[10];
        for (int i = 0; i < subjects * twice; i++) {
            int s = i % subjects;
            int teacher = s + (i < subjects ? 0 : 1);
            int column = random.nextInt(n);
            column = filled[column] < rooms ? column : random.nextInt(n);
            t.append(';').append(s).append('t').append(teacher).append('z').append(1 + random.nextInt(5));
            boolean free = (taught[teacher] >> column & 1) == 0;
            if (filled[column] < rooms && free) {
                t.append('@').append(column);
                taught[teacher] |= 1 << column;
                filled[column]++;
            }
        }
        tell(t.toString());
        same("desk()", x.desk(), y.desk());
        newPupils();
        for (int p = 0; p < y.pupils.size(); p++) {
            boolean is = random.nextBoolean();
            sameAnswer("keeps(" + p + ", " + is + ")", x.keeps(p, is), y.keeps(p, is));
        }
        same("best()", x.best(), y.best());
        same("exchange()", x.exchange(), y.exchange());
        for (int p = 0; p < y.pupils.size() && isRoomFor(2 * OTHER_CALLS); p++) {
            same("cures(" + p + ")", x.cures(p), y.cures(p));
        }
        for (int s = 0; s < y.sections.size() && isRoomFor(OTHER_CALLS); s++) {
            same("wants(" + s + ")", x.wants(s), y.wants(s));
        }
    }

    private void newDesk() {
        tell(bent(deskText(), 15));
        same("desk()", x.desk(), y.desk());
    }

    private String pupilsText() {
        StringBuilder t = new StringBuilder();
        int many = random.nextInt(small ? 14 : 26);
        int pool = random.nextInt(4) == 0 ? 10 : subjects;
        int most = 1 + random.nextInt(Math.min(pool, 6));
        for (int p = 0; p < many; p++) {
            t.append(p == 0 ? "" : ",");
            int wanted = 1 + random.nextInt(most);
            for (int s = 0; s < pool && wanted > 0; s++) {
                if (random.nextInt(pool - s) < wanted) {
                    t.append(s);
                    wanted--;
                }
            }
        }
        return t.toString();
    }

    private void newPupils() {
        tell(bent(pupilsText(), 10));
        same("pupils()", x.pupils(), y.pupils());
    }

    // ---- arguments, mostly good ones

    private int some(int size) {
        int odd = random.nextInt(40);
        if (odd == 0) {
            return random.nextInt();
        }
        return odd == 1 ? -1 : odd == 2 || size == 0 ? size : random.nextInt(size);
    }

    private int aSection() {
        return some(y.sections.size());
    }

    private int aPupil() {
        return some(y.pupils.size());
    }

    private void call(int kind) {
        if (kind < 36) {
            change(kind);
        } else if (kind < 62) {
            ask(kind);
        } else {
            weigh(kind);
        }
    }

    private void change(int kind) {
        int s = aSection();
        int o = aSection();
        int p = aPupil();
        int c = some(y.n);
        int d = some(10);
        int e = some(10);
        int k = some(31);
        boolean is = random.nextBoolean();
        switch (kind) {
            case 0: case 1: case 2: if (isRoomFor(NEW_DESK_CALLS)) {
                newDesk();
                newPupils();
            } break;
            case 3: case 4: case 5: same("opens(" + d + ", " + e + ", " + k + ")", x.opens(d, e, k), y.opens(d, e, k)); break;
            case 6: case 7: same("closes(" + s + ")", x.closes(s), y.closes(s)); break;
            case 8: case 9: same("seats(" + s + ", " + k + ")", x.seats(s, k), y.seats(s, k)); break;
            case 10: case 11: case 12: case 13: case 14: case 15:
                same("puts(" + s + ", " + c + ")", x.puts(s, c), y.puts(s, c)); break;
            case 16: case 17: same("takes(" + s + ")", x.takes(s), y.takes(s)); break;
            case 18: case 19: case 20: same("swaps(" + s + ", " + o + ")", x.swaps(s, o), y.swaps(s, o)); break;
            case 21: case 22: case 23: same("bars(" + d + ", " + c + ", " + is + ")", x.bars(d, c, is), y.bars(d, c, is)); break;
            case 24: same("rooms(" + e + ")", x.rooms(e), y.rooms(e)); break;
            case 25: case 26: case 27:
                same("chooses(" + p + ", " + d + ", " + is + ")", x.chooses(p, d, is), y.chooses(p, d, is)); break;
            case 28: case 29: case 30: case 31:
                same("keeps(" + p + ", " + is + ")", x.keeps(p, is), y.keeps(p, is)); break;
            case 32: same("climbs(" + k + ")", x.climbs(k), y.climbs(k)); break;
            case 33: same("lays()", x.lays(), y.lays()); break;
            case 34: same("end(" + k + ")", x.end(k) ? 1 : 0, y.end(k) ? 1 : 0); break;
            default:
                int v = random.nextInt();
                same("sign(" + v + ")", x.sign(v), y.sign(v));
                same("end(0)", x.end(0) ? 1 : 0, y.end(0) ? 1 : 0);
        }
    }

    private void ask(int kind) {
        int s = aSection();
        int p = aPupil();
        int c = some(y.n);
        int d = some(10);
        int e = some(10);
        int k = some(7);
        switch (kind) {
            case 36: same("section(" + s + ", " + k + ")", x.section(s, k), y.section(s, k)); break;
            case 37: case 38: same("column(" + c + ")", x.column(c), y.column(c)); break;
            case 39: case 40: same("subject(" + d + ")", x.subject(d), y.subject(d)); break;
            case 41: case 42: same("pupil(" + p + ")", x.pupil(p), y.pupil(p)); break;
            case 43: case 44: same("legal(" + s + ")", x.legal(s), y.legal(s)); break;
            case 45: case 46: same("why(" + s + ", " + c + ")", x.why(s, c), y.why(s, c)); break;
            case 47: case 48: same("fits()", x.fits(), y.fits()); break;
            case 49: case 50: case 51: same("ways(" + p + ")", x.ways(p), y.ways(p)); break;
            case 52: case 53: case 54: same("crowd(" + p + ")", x.crowd(p), y.crowd(p)); break;
            case 55: same("sets(" + k + ")", x.sets(k), y.sets(k)); break;
            case 56: case 57: case 58: same("both(" + d + ", " + e + ")", x.both(d, e), y.both(d, e)); break;
            case 59: case 60: same("clash()", x.clash(), y.clash()); break;
            default:
                int odd = random.nextInt();
                same("count(" + odd + ")", x.count(odd), y.count(odd));
        }
    }

    private void weigh(int kind) {
        int s = aSection();
        int p = aPupil();
        int c = some(y.n);
        int d = some(10);
        int e = some(10);
        boolean back = random.nextBoolean();
        switch (kind % 13) {
            case 0: case 1: same("gain(" + s + ", " + c + ")", x.gain(s, c), y.gain(s, c)); break;
            case 2: same("best()", x.best(), y.best()); break;
            case 3: same("exchange()", x.exchange(), y.exchange()); break;
            case 4: same("splits(" + d + ", " + e + ")", x.splits(d, e), y.splits(d, e)); break;
            case 5: if (small || random.nextInt(4) == 0) {
                same("cures(" + p + ")", x.cures(p), y.cures(p));
            } break;
            case 6: same("instead(" + p + ")", x.instead(p), y.instead(p)); break;
            case 7: same("spare()", x.spare(), y.spare()); break;
            case 8: case 9: same("seated(" + back + ")", x.seated(back), y.seated(back)); break;
            case 10: same("sits(" + s + ")", x.sits(s), y.sits(s)); break;
            case 11: same("lacking()", x.lacking(), y.lacking()); break;
            default: same("wants(" + s + ")", x.wants(s), y.wants(s));
        }
    }
}
