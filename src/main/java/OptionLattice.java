import java.util.NoSuchElementException;

/**
 * A desk for option columns. The words in capitals are those of the document's terms.
 * All rows are made with the object and used again, since nothing that a call makes is ever given back.
 */
public final class OptionLattice {
    public static final int NONE = -1;

    private static final int MOST_COLUMNS = 6;
    private static final int MOST_ROOMS = 9;
    private static final int SUBJECTS = 10;
    private static final int TEACHERS = 10;
    private static final int MOST_SECTIONS = 16;
    private static final int MOST_SEATS = 30;
    private static final int MOST_PUPILS = 24;
    private static final int MOST_CHOICES = 6;
    private static final int MOST_SIGNS = 240;
    private static final int MOST_CLIMBS = 30;
    private static final int ALL_DIGITS = 1023;
    private static final int ALL_COLUMNS = 63;

    /** Where a SECTION is that is in no COLUMN. */
    private static final int OUT = -1;
    /** What the document answers where it is so already, or where there is nothing such. */
    private static final int IDLE = -2;
    /** What the document answers where teachers, rooms or numbers do not let it be. */
    private static final int UNLAWFUL = -3;
    private static final int NO_GAIN = -1000;
    private static final int FAULT = -21;

    private static final int LAWFUL = 0;
    private static final int TEACHER_BUSY = 1;
    private static final int TEACHER_BARRED = 2;
    private static final int NO_ROOM = 3;

    private final Signs text = new Signs();
    private final Plan plan = new Plan();
    private final Plan planDraft = new Plan();
    private final Roll roll = new Roll();
    private final Roll rollDraft = new Roll();
    private final Ways wayFinder = new Ways();
    private final Seating seating = new Seating();
    private final int[] demand = new int[MOST_SECTIONS];
    private final long[] told = new long[MOST_CHOICES];
    private int toldCount = 0;

    public OptionLattice() {
    }

    // ---- what is told

    public int sign(int v) {
        return text.append(v) ? text.size : NONE;
    }

    public boolean end(int n) {
        return text.cutTo(n);
    }

    public int desk() {
        text.rewind();
        boolean good = planDraft.readFrom(text);
        int answer = good ? planDraft.size : FAULT - text.at;
        if (good) {
            plan.become(planDraft);
            roll.empty();
        }
        text.empty();
        return answer;
    }

    public int pupils() {
        text.rewind();
        boolean good = rollDraft.readFrom(text);
        int answer = good ? rollDraft.size : FAULT - text.at;
        if (good) {
            roll.become(rollDraft);
        }
        text.empty();
        return answer;
    }

    public int opens(int subject, int teacher, int seats) {
        if (!isSubject(subject) || !isTeacher(teacher) || !areSeats(seats)) {
            return NONE;
        }
        if (plan.size >= MOST_SECTIONS) {
            return IDLE;
        }
        plan.add(subject, teacher, seats, OUT);
        return plan.size - 1;
    }

    public int closes(int section) {
        if (!plan.has(section)) {
            return NONE;
        }
        plan.remove(section);
        return plan.size;
    }

    public int seats(int section, int n) {
        if (!plan.has(section) || !areSeats(n)) {
            return NONE;
        }
        int before = plan.seatsOf[section];
        plan.seatsOf[section] = n;
        return before;
    }

    public int puts(int section, int column) {
        if (!plan.has(section) || !plan.hasColumn(column)) {
            return NONE;
        }
        if (plan.columnOf[section] == column) {
            return IDLE;
        }
        if (!plan.mayMove(section, column)) {
            return UNLAWFUL;
        }
        plan.place(section, column);
        return Integer.bitCount(fitting());
    }

    public int takes(int section) {
        if (!plan.has(section)) {
            return NONE;
        }
        if (plan.columnOf[section] == OUT) {
            return IDLE;
        }
        plan.place(section, OUT);
        return Integer.bitCount(fitting());
    }

    public int swaps(int section, int other) {
        if (!plan.has(section) || !plan.has(other)) {
            return NONE;
        }
        if (plan.columnOf[section] == plan.columnOf[other]) {
            return IDLE;
        }
        if (!plan.mayTrade(section, other)) {
            return UNLAWFUL;
        }
        plan.trade(section, other);
        return Integer.bitCount(fitting());
    }

    public int bars(int teacher, int column, boolean is) {
        if (!isTeacher(teacher) || !plan.hasColumn(column)) {
            return NONE;
        }
        boolean was = hasBit(plan.barsOf[teacher], column);
        if (was == is) {
            return IDLE;
        }
        if (is && plan.teaches(teacher, column)) {
            return UNLAWFUL;
        }
        plan.barsOf[teacher] ^= 1 << column;
        return plan.barsOf[teacher];
    }

    public int rooms(int m) {
        if (m < 1 || m > MOST_ROOMS) {
            return NONE;
        }
        for (int column = 0; column < plan.columnCount; column++) {
            if (Integer.bitCount(plan.sectionsIn(column)) > m) {
                return UNLAWFUL;
            }
        }
        int before = plan.roomCount;
        plan.roomCount = m;
        return before;
    }

    public int chooses(int pupil, int subject, boolean is) {
        if (!roll.has(pupil) || !isSubject(subject)) {
            return NONE;
        }
        int before = roll.choicesOf[pupil];
        if (hasBit(before, subject) == is) {
            return IDLE;
        }
        int then = before ^ 1 << subject;
        if (then == 0 || Integer.bitCount(then) > MOST_CHOICES) {
            return UNLAWFUL;
        }
        roll.choicesOf[pupil] = then;
        return then;
    }

    public int keeps(int pupil, boolean is) {
        if (!roll.has(pupil)) {
            return NONE;
        }
        if (hasBit(roll.kept, pupil) == is) {
            return IDLE;
        }
        roll.kept ^= 1 << pupil;
        return Integer.bitCount(roll.kept);
    }

    // ---- what is there

    public int section(int section, int what) {
        if (!plan.has(section)) {
            return NONE;
        }
        switch (what) {
            case 0:
                return plan.subjectOf[section];
            case 1:
                return plan.teacherOf[section];
            case 2:
                return plan.seatsOf[section];
            case 3:
                return plan.columnOf[section] == OUT ? IDLE : plan.columnOf[section];
            default:
                return NONE;
        }
    }

    public int column(int column) {
        if (!plan.hasColumn(column)) {
            return NONE;
        }
        int sections = plan.sectionsIn(column);
        tell(Integer.bitCount(sections), plan.subjectsIn(column));
        return sections;
    }

    public int subject(int subject) {
        if (!isSubject(subject)) {
            return NONE;
        }
        int sections = 0;
        int seats = 0;
        for (int i = 0; i < plan.size; i++) {
            if (plan.subjectOf[i] == subject) {
                sections++;
                seats += plan.seatsOf[i];
            }
        }
        tell(sections, Integer.bitCount(roll.choosersOf(1 << subject)), seats);
        return plan.columnsWith[subject];
    }

    public int pupil(int pupil) {
        if (!roll.has(pupil)) {
            return NONE;
        }
        int choices = roll.choicesOf[pupil];
        tell(plan.hasWay(choices) ? 1 : 0, hasBit(roll.kept, pupil) ? 1 : 0);
        return choices;
    }

    public int legal(int section) {
        if (!plan.has(section)) {
            return NONE;
        }
        int columns = plan.lawfulColumns(section, plan.teacherOf[section]);
        tell(Integer.bitCount(columns));
        return columns;
    }

    public int why(int section, int column) {
        if (!plan.has(section) || !plan.hasColumn(column)) {
            return NONE;
        }
        return plan.obstacle(section, plan.teacherOf[section], column);
    }

    // ---- who fits

    public int fits() {
        int who = fitting();
        tell(who);
        return Integer.bitCount(who);
    }

    public int ways(int pupil) {
        if (!roll.has(pupil)) {
            return NONE;
        }
        int choices = roll.choicesOf[pupil];
        toldCount = 0;
        if (wayFinder.findFirst(plan.columnsWith, choices)) {
            tellFirstWay(Integer.bitCount(choices));
        }
        return wayFinder.numberOf(plan.columnsWith, choices);
    }

    public int crowd(int pupil) {
        if (!roll.has(pupil)) {
            return NONE;
        }
        int choices = roll.choicesOf[pupil];
        if (plan.hasWay(choices)) {
            return IDLE;
        }
        int found = 0;
        for (int set = 1; set <= ALL_DIGITS; set++) {
            boolean fewer = found == 0 || Integer.bitCount(set) < Integer.bitCount(found);
            if (fewer && (set & ~choices) == 0 && plan.isCrowded(set)) {
                found = set;
            }
        }
        tell(Integer.bitCount(found), plan.columnsOfAny(found));
        return found;
    }

    public int sets(int k) {
        if (k < 1 || k > MOST_CHOICES) {
            return NONE;
        }
        int all = 0;
        int good = 0;
        int firstBad = NONE;
        for (int set = 1; set <= ALL_DIGITS; set++) {
            if (Integer.bitCount(set) == k) {
                all++;
                if (plan.hasWay(set)) {
                    good++;
                } else if (firstBad == NONE) {
                    firstBad = set;
                }
            }
        }
        tell(all, firstBad);
        return good;
    }

    public int both(int subject, int other) {
        if (!isSubject(subject) || !isSubject(other) || subject == other) {
            return NONE;
        }
        int who = roll.choosersOf(1 << subject | 1 << other);
        tell(Integer.bitCount(who), Integer.bitCount(who & ~fitting()));
        return who;
    }

    public int clash() {
        int most = 0;
        int found = IDLE;
        int column = NONE;
        for (int a = 0; a < SUBJECTS; a++) {
            for (int b = a + 1; b < SUBJECTS; b++) {
                int many = plan.shareTheirOnlyColumn(a, b) ? Integer.bitCount(roll.choosersOf(1 << a | 1 << b)) : 0;
                if (many > most) {
                    most = many;
                    found = 10 * a + b;
                    column = leastBit(plan.columnsWith[a]);
                }
            }
        }
        if (found != IDLE) {
            tell(most, column);
        }
        return found;
    }

    // ---- moves

    public int gain(int section, int column) {
        if (!plan.has(section) || !plan.hasColumn(column)) {
            return NONE;
        }
        if (!plan.mayMove(section, column)) {
            return NO_GAIN;
        }
        int now = fitting();
        int then = fittingMoved(now, section, column);
        tell(then & ~now, now & ~then);
        return Integer.bitCount(then) - Integer.bitCount(now);
    }

    public int best() {
        int now = fitting();
        int move = bestMove(now);
        if (move != IDLE) {
            tell(Integer.bitCount(fittingMoved(now, move / 100, move % 100)));
        }
        return move;
    }

    public int climbs(int k) {
        if (k < 1 || k > MOST_CLIMBS) {
            return NONE;
        }
        int now = fitting();
        int done = 0;
        while (done < k) {
            int move = bestMove(now);
            if (move == IDLE) {
                break;
            }
            plan.place(move / 100, move % 100);
            now = fitting();
            done++;
        }
        tell(Integer.bitCount(now));
        return done;
    }

    public int exchange() {
        int now = fitting();
        int most = Integer.bitCount(now);
        int found = IDLE;
        for (int a = 0; a < plan.size; a++) {
            for (int b = a + 1; b < plan.size; b++) {
                if (plan.areApart(a, b) && plan.mayTrade(a, b)) {
                    int then = fittingTraded(now, a, b);
                    if (isHeld(now, then) && Integer.bitCount(then) > most) {
                        most = Integer.bitCount(then);
                        found = 100 * a + b;
                    }
                }
            }
        }
        if (found != IDLE) {
            tell(most);
        }
        return found;
    }

    public int splits(int subject, int teacher) {
        if (!isSubject(subject) || !isTeacher(teacher)) {
            return NONE;
        }
        int lawful = plan.lawfulColumns(NONE, teacher);
        int now = fitting();
        int before = plan.columnsWith[subject];
        int most = NONE;
        int found = IDLE;
        for (int column = 0; column < plan.columnCount; column++) {
            if (hasBit(lawful, column)) {
                plan.columnsWith[subject] = before | 1 << column;
                int then = Integer.bitCount(fittingAnew(now, 1 << subject));
                if (then > most) {
                    most = then;
                    found = column;
                }
            }
        }
        plan.columnsWith[subject] = before;
        if (found != IDLE) {
            tell(most);
        }
        return found;
    }

    public int cures(int pupil) {
        if (!roll.has(pupil)) {
            return NONE;
        }
        int choices = roll.choicesOf[pupil];
        if (plan.hasWay(choices)) {
            toldCount = 0;
            return 0;
        }
        int toHold = fitting() & roll.kept;
        int move = lastMove(choices, toHold);
        if (move != IDLE) {
            tell(move);
            return 1;
        }
        return tellTwoMoves(choices, toHold) ? 2 : IDLE;
    }

    public int instead(int pupil) {
        if (!roll.has(pupil)) {
            return NONE;
        }
        int choices = roll.choicesOf[pupil];
        if (plan.hasWay(choices)) {
            return IDLE;
        }
        int many = 0;
        int first = NONE;
        for (int goes = 0; goes < SUBJECTS; goes++) {
            for (int comes = 0; comes < SUBJECTS; comes++) {
                boolean change = hasBit(choices, goes) && !hasBit(choices, comes);
                if (change && plan.hasWay(choices ^ (1 << goes | 1 << comes))) {
                    first = many == 0 ? 10 * goes + comes : first;
                    many++;
                }
            }
        }
        tell(first);
        return many;
    }

    public int spare() {
        int now = fitting();
        int found = 0;
        for (int i = 0; i < plan.size; i++) {
            if (fittingMoved(now, i, OUT) == now) {
                found |= 1 << i;
            }
        }
        tell(Integer.bitCount(found & plan.sectionsIn(OUT)));
        return found;
    }

    public int lays() {
        for (int i = 0; i < plan.size; i++) {
            demand[i] = Integer.bitCount(roll.choosersOf(1 << plan.subjectOf[i]));
            plan.place(i, OUT);
        }
        for (int wanted = roll.size; wanted >= 0; wanted--) {
            for (int i = 0; i < plan.size; i++) {
                if (demand[i] == wanted) {
                    lay(i);
                }
            }
        }
        tell(Integer.bitCount(fitting()));
        return plan.size - Integer.bitCount(plan.sectionsIn(OUT));
    }

    // ---- seats

    public int seated(boolean back) {
        int who = seating.seatAll(plan, roll, back);
        tell(who);
        return Integer.bitCount(who);
    }

    public int sits(int section) {
        if (!plan.has(section)) {
            return NONE;
        }
        seating.seatAll(plan, roll, false);
        tell(seating.left[section]);
        return seating.sitting[section];
    }

    public int lacking() {
        int who = fitting() & ~seating.seatAll(plan, roll, false);
        int first = leastBit(who);
        tell(first, roll.has(first) ? seating.firstFull(plan, roll.choicesOf[first]) : NONE);
        return who;
    }

    public int wants(int section) {
        if (!plan.has(section)) {
            return NONE;
        }
        int fit = fitting();
        int before = plan.seatsOf[section];
        // A SECTION with a SEAT for each PUPIL is never full: more SEATS would change nothing.
        int most = Math.min(MOST_SEATS, Math.max(0, roll.size - before));
        int found = IDLE;
        for (int more = 0; more <= most && found == IDLE; more++) {
            plan.seatsOf[section] = before + more;
            if (seating.seatAll(plan, roll, false) == fit) {
                found = more;
            }
        }
        plan.seatsOf[section] = before;
        return found;
    }

    public int count(int what) {
        switch (what) {
            case 0:
                return plan.columnCount;
            case 1:
                return plan.roomCount;
            case 2:
                return plan.size;
            case 3:
                return plan.sectionsIn(OUT);
            case 4:
                return roll.size;
            case 5:
                return roll.kept;
            case 6:
                return plan.fullColumns();
            case 7:
                return toldCount;
            case 8:
                return text.size;
            case 9:
                return plan.busyTeachers();
            default:
                return NONE;
        }
    }

    public long row(int i) throws NoSuchElementException {
        if (i < 0 || i >= toldCount) {
            throw new NoSuchElementException();
        }
        return told[i];
    }

    // ---- the ROW

    private void tell(int only) {
        told[0] = only;
        toldCount = 1;
    }

    private void tell(int first, int second) {
        told[0] = first;
        told[1] = second;
        toldCount = 2;
    }

    private void tell(int first, int second, int third) {
        tell(first, second);
        told[2] = third;
        toldCount = 3;
    }

    private void tellFirstWay(int length) {
        int most = Math.min(length, MOST_CHOICES);
        for (int i = 0; i < most; i++) {
            told[i] = wayFinder.first[i];
        }
        toldCount = most;
    }

    // ---- who would fit

    private int fitting() {
        return fittingAnew(0, ALL_DIGITS);
    }

    /** Who chose none of the SUBJECTS that changed stays as before, so only the others are looked at. */
    private int fittingAnew(int before, int subjects) {
        int who = 0;
        for (int p = 0; p < roll.size; p++) {
            int choices = roll.choicesOf[p];
            boolean fit = (choices & subjects) == 0 ? hasBit(before, p) : plan.hasWay(choices);
            who |= fit ? 1 << p : 0;
        }
        return who;
    }

    private int fittingMoved(int now, int section, int column) {
        int from = plan.columnOf[section];
        plan.place(section, column);
        int then = fittingAnew(now, 1 << plan.subjectOf[section]);
        plan.place(section, from);
        return then;
    }

    private int fittingTraded(int now, int section, int other) {
        plan.trade(section, other);
        int then = fittingAnew(now, 1 << plan.subjectOf[section] | 1 << plan.subjectOf[other]);
        plan.trade(section, other);
        return then;
    }

    private boolean isHeld(int now, int then) {
        return (now & ~then & roll.kept) == 0;
    }

    private boolean allFit(int who) {
        for (int p = 0; p < roll.size; p++) {
            if (hasBit(who, p) && !plan.hasWay(roll.choicesOf[p])) {
                return false;
            }
        }
        return true;
    }

    // ---- the moves themselves

    private int bestMove(int now) {
        int most = Integer.bitCount(now);
        int found = IDLE;
        for (int section = 0; section < plan.size; section++) {
            for (int column = 0; column < plan.columnCount; column++) {
                if (plan.mayMove(section, column)) {
                    int then = fittingMoved(now, section, column);
                    if (isHeld(now, then) && Integer.bitCount(then) > most) {
                        most = Integer.bitCount(then);
                        found = 100 * section + column;
                    }
                }
            }
        }
        return found;
    }

    /** The first move that makes these CHOICES have a WAY while all who are to be held FIT, or IDLE. */
    private int lastMove(int choices, int toHold) {
        for (int section = 0; section < plan.size; section++) {
            int columns = plan.helpfulColumns(section, choices);
            for (int column = 0; column < plan.columnCount; column++) {
                if (hasBit(columns, column) && plan.mayMove(section, column)) {
                    int from = plan.columnOf[section];
                    plan.place(section, column);
                    boolean held = allFit(toHold);
                    plan.place(section, from);
                    if (held) {
                        return 100 * section + column;
                    }
                }
            }
        }
        return IDLE;
    }

    private boolean tellTwoMoves(int choices, int toHold) {
        for (int section = 0; section < plan.size; section++) {
            for (int column = 0; column < plan.columnCount; column++) {
                if (plan.mayMove(section, column)) {
                    int from = plan.columnOf[section];
                    plan.place(section, column);
                    int second = lastMove(choices, toHold);
                    plan.place(section, from);
                    if (second != IDLE) {
                        tell(100 * section + column, second);
                        return true;
                    }
                }
            }
        }
        return false;
    }

    private void lay(int section) {
        int now = fitting();
        int most = NONE;
        int found = OUT;
        for (int column = 0; column < plan.columnCount; column++) {
            if (plan.mayMove(section, column)) {
                int then = Integer.bitCount(fittingMoved(now, section, column));
                if (then > most) {
                    most = then;
                    found = column;
                }
            }
        }
        plan.place(section, found);
    }

    // ---- bits and bounds

    private static boolean hasBit(int bits, int i) {
        return (bits >> i & 1) != 0;
    }

    private static int leastBit(int bits) {
        for (int i = 0; i < MOST_PUPILS; i++) {
            if (hasBit(bits, i)) {
                return i;
            }
        }
        return NONE;
    }

    /** The digits behind d, for rows that rise. */
    private static int digitsAbove(int d) {
        return ALL_DIGITS & -(2 << d);
    }

    private static boolean isSubject(int subject) {
        return subject >= 0 && subject < SUBJECTS;
    }

    private static boolean isTeacher(int teacher) {
        return teacher >= 0 && teacher < TEACHERS;
    }

    private static boolean areSeats(int seats) {
        return seats >= 1 && seats <= MOST_SEATS;
    }

    /** THE TEXT, with the place up to which it has been read: at a fault, the sign that can't stand there. */
    private static final class Signs {
        private final char[] signs = new char[MOST_SIGNS];
        private int size = 0;
        private int at = 0;

        boolean append(int v) {
            if (size > MOST_SIGNS - 4) {
                return false;
            }
            for (int shift = 24; shift >= 0; shift -= 8) {
                signs[size] = (char) (v >>> shift & 255);
                size++;
            }
            return true;
        }

        boolean cutTo(int n) {
            if (n < 0 || n > size) {
                return false;
            }
            size = n;
            return true;
        }

        void empty() {
            size = 0;
        }

        void rewind() {
            at = 0;
        }

        boolean isRead() {
            return at >= size;
        }

        boolean takeSign(char sign) {
            if (at >= size || signs[at] != sign) {
                return false;
            }
            at++;
            return true;
        }

        /** A digit of the allowed ones; another sign is left where it is, and NONE answered. */
        int takeDigit(int allowed) {
            int digit = at < size ? signs[at] - '0' : NONE;
            if (digit < 0 || digit > 9 || !hasBit(allowed, digit)) {
                return NONE;
            }
            at++;
            return digit;
        }
    }

    /** COLUMNS, ROOMS, BARS and SECTIONS. Each SECTION in a COLUMN is LEGAL there, whatever has been called. */
    private static final class Plan {
        private int columnCount = 4;
        private int roomCount = 5;
        private int size = 0;
        private final int[] barsOf = new int[TEACHERS];
        private final int[] subjectOf = new int[MOST_SECTIONS];
        private final int[] teacherOf = new int[MOST_SECTIONS];
        private final int[] seatsOf = new int[MOST_SECTIONS];
        private final int[] columnOf = new int[MOST_SECTIONS];
        private final int[] columnsWith = new int[SUBJECTS];

        boolean has(int section) {
            return section >= 0 && section < size;
        }

        boolean hasColumn(int column) {
            return column >= 0 && column < columnCount;
        }

        void become(Plan other) {
            columnCount = other.columnCount;
            roomCount = other.roomCount;
            size = other.size;
            System.arraycopy(other.barsOf, 0, barsOf, 0, TEACHERS);
            System.arraycopy(other.subjectOf, 0, subjectOf, 0, MOST_SECTIONS);
            System.arraycopy(other.teacherOf, 0, teacherOf, 0, MOST_SECTIONS);
            System.arraycopy(other.seatsOf, 0, seatsOf, 0, MOST_SECTIONS);
            System.arraycopy(other.columnOf, 0, columnOf, 0, MOST_SECTIONS);
            System.arraycopy(other.columnsWith, 0, columnsWith, 0, SUBJECTS);
        }

        void add(int subject, int teacher, int seats, int column) {
            if (size < MOST_SECTIONS) {
                subjectOf[size] = subject;
                teacherOf[size] = teacher;
                seatsOf[size] = seats;
                columnOf[size] = column;
                size++;
                noteColumnsOf(subject);
            }
        }

        void remove(int section) {
            int subject = subjectOf[section];
            size--;
            for (int i = section; i < size; i++) {
                subjectOf[i] = subjectOf[i + 1];
                teacherOf[i] = teacherOf[i + 1];
                seatsOf[i] = seatsOf[i + 1];
                columnOf[i] = columnOf[i + 1];
            }
            noteColumnsOf(subject);
        }

        void place(int section, int column) {
            columnOf[section] = column;
            noteColumnsOf(subjectOf[section]);
        }

        void trade(int section, int other) {
            int column = columnOf[section];
            place(section, columnOf[other]);
            place(other, column);
        }

        private void noteColumnsOf(int subject) {
            columnsWith[subject] = columnsWithout(subject, NONE);
        }

        /** COLUMNS of a SUBJECT, as if a SECTION were not there. */
        private int columnsWithout(int subject, int section) {
            int columns = 0;
            for (int i = 0; i < size; i++) {
                if (i != section && subjectOf[i] == subject && columnOf[i] != OUT) {
                    columns |= 1 << columnOf[i];
                }
            }
            return columns;
        }

        int sectionsIn(int column) {
            int sections = 0;
            for (int i = 0; i < size; i++) {
                sections |= columnOf[i] == column ? 1 << i : 0;
            }
            return sections;
        }

        int subjectsIn(int column) {
            int subjects = 0;
            for (int s = 0; s < SUBJECTS; s++) {
                subjects |= hasBit(columnsWith[s], column) ? 1 << s : 0;
            }
            return subjects;
        }

        int fullColumns() {
            int full = 0;
            for (int column = 0; column < columnCount; column++) {
                full |= Integer.bitCount(sectionsIn(column)) >= roomCount ? 1 << column : 0;
            }
            return full;
        }

        int busyTeachers() {
            int once = 0;
            int twice = 0;
            for (int i = 0; i < size; i++) {
                int teacher = 1 << teacherOf[i];
                twice |= once & teacher;
                once |= teacher;
            }
            return twice;
        }

        // -- what is LEGAL

        /** Why a SECTION (NONE: one that is still to come) of a TEACHER may not be in a COLUMN. */
        int obstacle(int section, int teacher, int column) {
            int others = 0;
            boolean busy = false;
            for (int i = 0; i < size; i++) {
                if (i != section && columnOf[i] == column) {
                    others++;
                    busy = busy || teacherOf[i] == teacher;
                }
            }
            if (busy) {
                return TEACHER_BUSY;
            }
            if (hasBit(barsOf[teacher], column)) {
                return TEACHER_BARRED;
            }
            return others < roomCount ? LAWFUL : NO_ROOM;
        }

        int lawfulColumns(int section, int teacher) {
            int columns = 0;
            for (int column = 0; column < columnCount; column++) {
                columns |= obstacle(section, teacher, column) == LAWFUL ? 1 << column : 0;
            }
            return columns;
        }

        boolean mayMove(int section, int column) {
            return columnOf[section] != column && obstacle(section, teacherOf[section], column) == LAWFUL;
        }

        boolean teaches(int teacher, int column) {
            for (int i = 0; i < size; i++) {
                if (teacherOf[i] == teacher && columnOf[i] == column) {
                    return true;
                }
            }
            return false;
        }

        boolean areApart(int section, int other) {
            return columnOf[section] != OUT && columnOf[other] != OUT && columnOf[section] != columnOf[other];
        }

        boolean mayTrade(int section, int other) {
            return mayReplace(section, other) && mayReplace(other, section);
        }

        private boolean mayReplace(int section, int other) {
            int column = columnOf[other];
            if (column == OUT) {
                return true;
            }
            columnOf[other] = OUT;
            boolean may = obstacle(section, teacherOf[section], column) == LAWFUL;
            columnOf[other] = column;
            return may;
        }

        // -- what the COLUMNS of SUBJECTS allow

        boolean hasWay(int choices) {
            return Ways.isStart(Ways.startsFor(columnsWith, choices), 0);
        }

        int columnsOfAny(int subjects) {
            int columns = 0;
            for (int s = 0; s < SUBJECTS; s++) {
                columns |= hasBit(subjects, s) ? columnsWith[s] : 0;
            }
            return columns;
        }

        boolean isCrowded(int subjects) {
            return Integer.bitCount(columnsOfAny(subjects)) < Integer.bitCount(subjects);
        }

        boolean shareTheirOnlyColumn(int subject, int other) {
            return columnsWith[subject] == columnsWith[other] && Integer.bitCount(columnsWith[subject]) == 1;
        }

        /** COLUMNS, LEGAL or not, with the SECTION in which the CHOICES would have a WAY. */
        int helpfulColumns(int section, int choices) {
            int subject = subjectOf[section];
            if (!hasBit(choices, subject)) {
                return hasWay(choices) ? ALL_COLUMNS : 0;
            }
            long starts = Ways.startsFor(columnsWith, choices & ~(1 << subject));
            int open = 0;
            for (int column = 0; column < columnCount; column++) {
                open |= Ways.isStart(starts, 1 << column) ? 1 << column : 0;
            }
            return (columnsWithout(subject, section) & open) != 0 ? ALL_COLUMNS : open;
        }

        // -- THE TEXT of a desk

        boolean readFrom(Signs text) {
            size = 0;
            columnCount = text.takeDigit(digitsAbove(0) & ~digitsAbove(MOST_COLUMNS));
            if (columnCount == NONE || !text.takeSign('x')) {
                return false;
            }
            roomCount = text.takeDigit(digitsAbove(0));
            if (roomCount == NONE) {
                return false;
            }
            for (int i = 0; i < TEACHERS; i++) {
                barsOf[i] = 0;
            }
            for (int s = 0; s < SUBJECTS; s++) {
                columnsWith[s] = 0;
            }
            for (int line = 0; line < MOST_SIGNS && !text.isRead(); line++) {
                if (!text.takeSign(';') || !readLine(text)) {
                    return false;
                }
            }
            return true;
        }

        private boolean readLine(Signs text) {
            return text.takeSign('b') ? readBars(text) : readSection(text);
        }

        /** A digit that does not rise is left for who reads on, to whom it is as wrong. */
        private boolean readBars(Signs text) {
            int teacher = text.takeDigit(ALL_DIGITS & ~teachersTold());
            if (teacher == NONE) {
                return false;
            }
            int allowed = (1 << columnCount) - 1;
            for (int i = 0; i < MOST_COLUMNS; i++) {
                int column = text.takeDigit(allowed);
                if (column == NONE) {
                    break;
                }
                barsOf[teacher] |= 1 << column;
                allowed &= digitsAbove(column);
            }
            return barsOf[teacher] != 0;
        }

        private int teachersTold() {
            int teachers = 0;
            for (int t = 0; t < TEACHERS; t++) {
                teachers |= barsOf[t] != 0 ? 1 << t : 0;
            }
            for (int i = 0; i < size; i++) {
                teachers |= 1 << teacherOf[i];
            }
            return teachers;
        }

        private boolean readSection(Signs text) {
            int subject = text.takeDigit(size < MOST_SECTIONS ? ALL_DIGITS : 0);
            if (subject == NONE || !text.takeSign('t')) {
                return false;
            }
            int teacher = text.takeDigit(ALL_DIGITS);
            if (teacher == NONE || !text.takeSign('z')) {
                return false;
            }
            int seats = readSeats(text);
            if (seats == NONE) {
                return false;
            }
            int column = OUT;
            if (text.takeSign('@')) {
                column = text.takeDigit(lawfulColumns(NONE, teacher));
                if (column == NONE) {
                    return false;
                }
            }
            add(subject, teacher, seats, column);
            return true;
        }

        /** A second digit that makes too many is left for who reads on, to whom it is as wrong. */
        private static int readSeats(Signs text) {
            int seats = text.takeDigit(digitsAbove(0));
            if (seats == NONE) {
                return NONE;
            }
            int most = Math.min(9, MOST_SEATS - 10 * seats);
            int second = text.takeDigit(most < 0 ? 0 : ALL_DIGITS & ~digitsAbove(most));
            return second == NONE ? seats : 10 * seats + second;
        }
    }

    /** PUPILS, their CHOICES, and who is KEPT. */
    private static final class Roll {
        private final int[] choicesOf = new int[MOST_PUPILS];
        private int size = 0;
        private int kept = 0;

        boolean has(int pupil) {
            return pupil >= 0 && pupil < size;
        }

        void empty() {
            size = 0;
            kept = 0;
        }

        void become(Roll other) {
            size = other.size;
            kept = other.kept;
            System.arraycopy(other.choicesOf, 0, choicesOf, 0, MOST_PUPILS);
        }

        /** Who chose all of the SUBJECTS. */
        int choosersOf(int subjects) {
            int who = 0;
            for (int p = 0; p < size; p++) {
                who |= (choicesOf[p] & subjects) == subjects ? 1 << p : 0;
            }
            return who;
        }

        boolean readFrom(Signs text) {
            empty();
            if (text.isRead()) {
                return true;
            }
            while (size < MOST_PUPILS) {
                int choices = readChoices(text);
                if (choices == 0) {
                    return false;
                }
                choicesOf[size] = choices;
                size++;
                if (text.isRead()) {
                    return true;
                }
                if (size < MOST_PUPILS && !text.takeSign(',')) {
                    return false;
                }
            }
            return false;
        }

        private static int readChoices(Signs text) {
            int choices = 0;
            int allowed = ALL_DIGITS;
            for (int i = 0; i < MOST_CHOICES; i++) {
                int subject = text.takeDigit(allowed);
                if (subject == NONE) {
                    break;
                }
                choices |= 1 << subject;
                allowed = digitsAbove(subject);
            }
            return choices;
        }
    }

    /**
     * WAYS, found by sets of used COLUMNS: there are only 64 of them, so a long holds a set of such sets,
     * its bit m standing for the COLUMNS of m. A start is a set with which in use all SUBJECTS still find a COLUMN.
     */
    private static final class Ways {
        private static final long ALL_STARTS = -1L;
        /** For each COLUMN the sets in which it is not. */
        private static final long[] SETS_WITHOUT = {
            0x5555555555555555L, 0x3333333333333333L, 0x0F0F0F0F0F0F0F0FL,
            0x00FF00FF00FF00FFL, 0x0000FFFF0000FFFFL, 0x00000000FFFFFFFFL,
        };

        private final int[] first = new int[MOST_CHOICES];
        private final long[] startsAt = new long[SUBJECTS + 1];
        private final int[] tally = new int[ALL_COLUMNS + 1];

        static boolean isStart(long starts, int used) {
            return (starts >>> used & 1L) != 0;
        }

        static long startsFor(int[] columnsWith, int choices) {
            long starts = ALL_STARTS;
            for (int s = 0; s < SUBJECTS && starts != 0; s++) {
                if (hasBit(choices, s)) {
                    starts = startsBefore(starts, columnsWith[s]);
                }
            }
            return starts;
        }

        private static long startsBefore(long starts, int columns) {
            long before = 0;
            for (int column = 0; column < MOST_COLUMNS; column++) {
                if (hasBit(columns, column)) {
                    before |= starts >>> (1 << column) & SETS_WITHOUT[column];
                }
            }
            return before;
        }

        /** Fills first with the first WAY, or answers false if there is none. */
        boolean findFirst(int[] columnsWith, int choices) {
            startsAt[SUBJECTS] = ALL_STARTS;
            for (int s = SUBJECTS - 1; s >= 0; s--) {
                long after = startsAt[s + 1];
                startsAt[s] = hasBit(choices, s) ? startsBefore(after, columnsWith[s]) : after;
            }
            if (!isStart(startsAt[0], 0)) {
                return false;
            }
            int used = 0;
            int found = 0;
            for (int s = 0; s < SUBJECTS && found < MOST_CHOICES; s++) {
                if (hasBit(choices, s)) {
                    int column = firstColumn(columnsWith[s] & ~used, used, startsAt[s + 1]);
                    first[found] = column;
                    used |= 1 << column;
                    found++;
                }
            }
            return true;
        }

        private static int firstColumn(int columns, int used, long after) {
            for (int column = 0; column < MOST_COLUMNS; column++) {
                if (hasBit(columns, column) && isStart(after, used | 1 << column)) {
                    return column;
                }
            }
            return 0;
        }

        /** Sets of used COLUMNS have as many of them as SUBJECTS were placed, so a single tally serves them all. */
        int numberOf(int[] columnsWith, int choices) {
            for (int used = 0; used <= ALL_COLUMNS; used++) {
                tally[used] = 0;
            }
            tally[0] = 1;
            int placed = 0;
            for (int s = 0; s < SUBJECTS; s++) {
                if (hasBit(choices, s)) {
                    placeOneMore(placed, columnsWith[s]);
                    placed++;
                }
            }
            int number = 0;
            for (int used = 0; used <= ALL_COLUMNS; used++) {
                number += Integer.bitCount(used) == placed ? tally[used] : 0;
            }
            return number;
        }

        private void placeOneMore(int placed, int columns) {
            for (int used = 0; used <= ALL_COLUMNS; used++) {
                if (Integer.bitCount(used) == placed && tally[used] != 0) {
                    for (int column = 0; column < MOST_COLUMNS; column++) {
                        if (hasBit(columns & ~used, column)) {
                            tally[used | 1 << column] += tally[used];
                        }
                    }
                }
            }
        }
    }

    /** Who sits where, once all have been SEATED. */
    private static final class Seating {
        private final int[] left = new int[MOST_SECTIONS];
        private final int[] sitting = new int[MOST_SECTIONS];
        private final int[] openColumns = new int[SUBJECTS];
        private final Ways wayFinder = new Ways();

        int seatAll(Plan plan, Roll roll, boolean back) {
            clear(plan);
            int who = 0;
            for (int i = 0; i < roll.size; i++) {
                int pupil = back ? roll.size - 1 - i : i;
                int choices = roll.choicesOf[pupil];
                // CHOICES are unlike, so none takes another one's SEAT: a WAY in COLUMNS with a SEAT left is enough.
                if (wayFinder.findFirst(openColumns, choices)) {
                    seatOne(plan, pupil, choices);
                    who |= 1 << pupil;
                }
            }
            return who;
        }

        private void clear(Plan plan) {
            for (int i = 0; i < plan.size; i++) {
                left[i] = plan.seatsOf[i];
                sitting[i] = 0;
            }
            for (int s = 0; s < SUBJECTS; s++) {
                openColumns[s] = plan.columnsWith[s];
            }
        }

        private void seatOne(Plan plan, int pupil, int choices) {
            int done = 0;
            for (int s = 0; s < SUBJECTS && done < MOST_CHOICES; s++) {
                if (hasBit(choices, s)) {
                    takeSeat(plan, pupil, s, wayFinder.first[done]);
                    openColumns[s] = columnsLeft(plan, s);
                    done++;
                }
            }
        }

        private void takeSeat(Plan plan, int pupil, int subject, int column) {
            for (int i = 0; i < plan.size; i++) {
                if (plan.subjectOf[i] == subject && plan.columnOf[i] == column && left[i] > 0) {
                    left[i]--;
                    sitting[i] |= 1 << pupil;
                    return;
                }
            }
        }

        private int columnsLeft(Plan plan, int subject) {
            int columns = 0;
            for (int i = 0; i < plan.size; i++) {
                if (plan.subjectOf[i] == subject && plan.columnOf[i] != OUT && left[i] > 0) {
                    columns |= 1 << plan.columnOf[i];
                }
            }
            return columns;
        }

        int firstFull(Plan plan, int choices) {
            for (int s = 0; s < SUBJECTS; s++) {
                if (hasBit(choices, s) && columnsLeft(plan, s) == 0) {
                    return s;
                }
            }
            return NONE;
        }
    }
}
