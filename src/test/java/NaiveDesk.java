import java.util.ArrayList;
import java.util.Arrays;
import java.util.List;
import java.util.TreeSet;
import java.util.regex.Matcher;
import java.util.regex.Pattern;

/** The document once more, word by word and slowly: what ModelTest compares the class with. */
final class NaiveDesk {
    static final int NONE = -1;
    static final int OUT = -1;

    static final class Section {
        int subject;
        int teacher;
        int seats;
        int column = OUT;

        Section(int subject, int teacher, int seats, int column) {
            this.subject = subject;
            this.teacher = teacher;
            this.seats = seats;
            this.column = column;
        }
    }

    static final class Pupil {
        final TreeSet<Integer> choices = new TreeSet<>();
        boolean kept;
    }

    int n = 4;
    int rooms = 5;
    boolean[][] barred = new boolean[10][6];
    List<Section> sections = new ArrayList<>();
    List<Pupil> pupils = new ArrayList<>();
    String text = "";
    List<Long> row = new ArrayList<>();

    // ---- the terms

    private boolean isSection(int i) {
        return i >= 0 && i < sections.size();
    }

    private boolean isPupil(int i) {
        return i >= 0 && i < pupils.size();
    }

    private boolean isColumn(int i) {
        return i >= 0 && i < n;
    }

    private static boolean isDigit(int i) {
        return i >= 0 && i <= 9;
    }

    private void tell(long... numbers) {
        row = new ArrayList<>();
        for (long number : numbers) {
            row.add(number);
        }
    }

    private int reason(Section s, int column) {
        int others = 0;
        boolean same = false;
        for (Section o : sections) {
            if (o != s && o.column == column) {
                others++;
                same |= o.teacher == s.teacher;
            }
        }
        return same ? 1 : barred[s.teacher][column] ? 2 : others >= rooms ? 3 : 0;
    }

    private boolean isThere(int subject, int column) {
        for (Section s : sections) {
            if (s.subject == subject && s.column == column) {
                return true;
            }
        }
        return false;
    }

    private List<int[]> waysOf(TreeSet<Integer> subjects) {
        List<int[]> all = new ArrayList<>();
        List<Integer> order = new ArrayList<>(subjects);
        extend(order, new int[order.size()], 0, all);
        return all;
    }

    private void extend(List<Integer> order, int[] way, int at, List<int[]> all) {
        if (at == order.size()) {
            all.add(way.clone());
            return;
        }
        for (int c = 0; c < n; c++) {
            boolean used = false;
            for (int i = 0; i < at; i++) {
                used |= way[i] == c;
            }
            if (!used && isThere(order.get(at), c)) {
                way[at] = c;
                extend(order, way, at + 1, all);
            }
        }
    }

    private int fitBits() {
        int bits = 0;
        for (int p = 0; p < pupils.size(); p++) {
            bits |= waysOf(pupils.get(p).choices).isEmpty() ? 0 : 1 << p;
        }
        return bits;
    }

    private int fitCount() {
        return Integer.bitCount(fitBits());
    }

    private boolean held(int before) {
        int after = fitBits();
        for (int p = 0; p < pupils.size(); p++) {
            if (pupils.get(p).kept && (before >> p & 1) == 1 && (after >> p & 1) == 0) {
                return false;
            }
        }
        return true;
    }

    private static int bits(TreeSet<Integer> set) {
        int b = 0;
        for (int i : set) {
            b |= 1 << i;
        }
        return b;
    }

    private static TreeSet<Integer> members(int b) {
        TreeSet<Integer> set = new TreeSet<>();
        for (int i = 0; i < 32; i++) {
            if ((b >>> i & 1) == 1) {
                set.add(i);
            }
        }
        return set;
    }

    // ---- texts

    int sign(int v) {
        if (text.length() + 4 > 240) {
            return NONE;
        }
        for (int i = 3; i >= 0; i--) {
            text += (char) (v >>> 8 * i & 255);
        }
        return text.length();
    }

    boolean end(int k) {
        if (k < 0 || k > text.length()) {
            return false;
        }
        text = text.substring(0, k);
        return true;
    }

    private static final Pattern HEAD = Pattern.compile("([1-6])x([1-9])");
    private static final Pattern BARS = Pattern.compile("b([0-9])([0-9]+)");
    private static final Pattern SECTION = Pattern.compile("([0-9])t([0-9])z([1-9][0-9]?)(?:@([0-9]))?");

    /** The desk that a text tells, or null if it is none. */
    private static NaiveDesk told(String t) {
        String[] lines = t.split(";", -1);
        Matcher head = HEAD.matcher(lines[0]);
        if (!head.matches()) {
            return null;
        }
        NaiveDesk d = new NaiveDesk();
        d.n = head.group(1).charAt(0) - '0';
        d.rooms = head.group(2).charAt(0) - '0';
        TreeSet<Integer> teachersTold = new TreeSet<>();
        for (String line : Arrays.asList(lines).subList(1, lines.length)) {
            Matcher bars = BARS.matcher(line);
            Matcher section = SECTION.matcher(line);
            boolean good = bars.matches() ? d.addBars(bars, teachersTold)
                : section.matches() && d.addSection(section, teachersTold);
            if (!good) {
                return null;
            }
        }
        return d;
    }

    private boolean addBars(Matcher m, TreeSet<Integer> teachersTold) {
        int teacher = m.group(1).charAt(0) - '0';
        if (!teachersTold.add(teacher)) {
            return false;
        }
        int last = -1;
        for (char c : m.group(2).toCharArray()) {
            int column = c - '0';
            if (column <= last || column >= n) {
                return false;
            }
            barred[teacher][column] = true;
            last = column;
        }
        return true;
    }

    private boolean addSection(Matcher m, TreeSet<Integer> teachersTold) {
        int subject = m.group(1).charAt(0) - '0';
        int teacher = m.group(2).charAt(0) - '0';
        int seats = Integer.parseInt(m.group(3));
        if (seats > 30 || sections.size() == 16) {
            return false;
        }
        teachersTold.add(teacher);
        Section s = new Section(subject, teacher, seats, OUT);
        if (m.group(4) != null) {
            int column = m.group(4).charAt(0) - '0';
            if (column >= n || reason(s, column) != 0) {
                return false;
            }
            s.column = column;
        }
        sections.add(s);
        return true;
    }

    private static final String[] REST_OF_DESK = {"", "x1", "1", "0", "t0z1", "0z1", "z1"};

    private static boolean canBeginDesk(String t) {
        for (String rest : REST_OF_DESK) {
            if (told(t + rest) != null) {
                return true;
            }
        }
        // The document puts the fault at what comes behind these, even where nothing can.
        return t.endsWith(";") && told(t.substring(0, t.length() - 1)) != null
            || t.endsWith(";b") && told(t.substring(0, t.length() - 2)) != null
            || t.matches("(?s).*;[0-9]t[0-9]z[0-9]+@") && told(t.substring(0, t.length() - 1)) != null;
    }

    int desk() {
        String t = text;
        text = "";
        for (int p = 0; p < t.length(); p++) {
            if (!canBeginDesk(t.substring(0, p + 1))) {
                return -21 - p;
            }
        }
        NaiveDesk d = told(t);
        if (d == null) {
            return -21 - t.length();
        }
        n = d.n;
        rooms = d.rooms;
        barred = d.barred;
        sections = d.sections;
        pupils = new ArrayList<>();
        return sections.size();
    }

    private static boolean areChoices(String t) {
        for (String one : t.split(",", -1)) {
            if (!one.matches("[0-9]{1,6}")) {
                return false;
            }
            for (int i = 1; i < one.length(); i++) {
                if (one.charAt(i) <= one.charAt(i - 1)) {
                    return false;
                }
            }
        }
        return t.split(",", -1).length <= 24;
    }

    int pupils() {
        String t = text;
        text = "";
        for (int p = 0; p < t.length(); p++) {
            String start = t.substring(0, p + 1);
            if (!areChoices(start) && !areChoices(start + "0")) {
                return -21 - p;
            }
        }
        if (!t.isEmpty() && !areChoices(t)) {
            return -21 - t.length();
        }
        pupils = new ArrayList<>();
        if (!t.isEmpty()) {
            for (String one : t.split(",", -1)) {
                Pupil p = new Pupil();
                for (char c : one.toCharArray()) {
                    p.choices.add(c - '0');
                }
                pupils.add(p);
            }
        }
        return pupils.size();
    }

    // ---- what is told

    int opens(int subject, int teacher, int seats) {
        if (!isDigit(subject) || !isDigit(teacher) || seats < 1 || seats > 30) {
            return NONE;
        }
        if (sections.size() == 16) {
            return -2;
        }
        sections.add(new Section(subject, teacher, seats, OUT));
        return sections.size() - 1;
    }

    int closes(int section) {
        if (!isSection(section)) {
            return NONE;
        }
        sections.remove(section);
        return sections.size();
    }

    int seats(int section, int k) {
        if (!isSection(section) || k < 1 || k > 30) {
            return NONE;
        }
        int was = sections.get(section).seats;
        sections.get(section).seats = k;
        return was;
    }

    int puts(int section, int column) {
        if (!isSection(section) || !isColumn(column)) {
            return NONE;
        }
        Section s = sections.get(section);
        if (s.column == column) {
            return -2;
        }
        if (reason(s, column) != 0) {
            return -3;
        }
        s.column = column;
        return fitCount();
    }

    int takes(int section) {
        if (!isSection(section)) {
            return NONE;
        }
        Section s = sections.get(section);
        if (s.column == OUT) {
            return -2;
        }
        s.column = OUT;
        return fitCount();
    }

    private boolean exchanged(Section a, Section b) {
        int ca = a.column;
        int cb = b.column;
        a.column = OUT;
        b.column = OUT;
        boolean good = (cb == OUT || reason(a, cb) == 0) && (ca == OUT || reason(b, ca) == 0);
        a.column = good ? cb : ca;
        b.column = good ? ca : cb;
        return good;
    }

    int swaps(int section, int other) {
        if (!isSection(section) || !isSection(other)) {
            return NONE;
        }
        Section a = sections.get(section);
        Section b = sections.get(other);
        if (a.column == b.column) {
            return -2;
        }
        return exchanged(a, b) ? fitCount() : -3;
    }

    int bars(int teacher, int column, boolean is) {
        if (!isDigit(teacher) || !isColumn(column)) {
            return NONE;
        }
        if (barred[teacher][column] == is) {
            return -2;
        }
        for (Section s : sections) {
            if (is && s.teacher == teacher && s.column == column) {
                return -3;
            }
        }
        barred[teacher][column] = is;
        int b = 0;
        for (int c = 0; c < n; c++) {
            b |= barred[teacher][c] ? 1 << c : 0;
        }
        return b;
    }

    private int sectionsIn(int column) {
        int b = 0;
        for (int i = 0; i < sections.size(); i++) {
            b |= sections.get(i).column == column ? 1 << i : 0;
        }
        return b;
    }

    int rooms(int m) {
        if (m < 1 || m > 9) {
            return NONE;
        }
        for (int c = 0; c < n; c++) {
            if (Integer.bitCount(sectionsIn(c)) > m) {
                return -3;
            }
        }
        int was = rooms;
        rooms = m;
        return was;
    }

    int chooses(int pupil, int subject, boolean is) {
        if (!isPupil(pupil) || !isDigit(subject)) {
            return NONE;
        }
        TreeSet<Integer> choices = pupils.get(pupil).choices;
        if (choices.contains(subject) == is) {
            return -2;
        }
        if (is ? choices.size() == 6 : choices.size() == 1) {
            return -3;
        }
        if (is) {
            choices.add(subject);
        } else {
            choices.remove(subject);
        }
        return bits(choices);
    }

    private int keptBits() {
        int b = 0;
        for (int p = 0; p < pupils.size(); p++) {
            b |= pupils.get(p).kept ? 1 << p : 0;
        }
        return b;
    }

    int keeps(int pupil, boolean is) {
        if (!isPupil(pupil)) {
            return NONE;
        }
        if (pupils.get(pupil).kept == is) {
            return -2;
        }
        pupils.get(pupil).kept = is;
        return Integer.bitCount(keptBits());
    }

    // ---- what is there

    int section(int section, int what) {
        if (!isSection(section) || what < 0 || what > 3) {
            return NONE;
        }
        Section s = sections.get(section);
        return what == 0 ? s.subject : what == 1 ? s.teacher : what == 2 ? s.seats : s.column == OUT ? -2 : s.column;
    }

    int column(int column) {
        if (!isColumn(column)) {
            return NONE;
        }
        TreeSet<Integer> subjects = new TreeSet<>();
        for (Section s : sections) {
            if (s.column == column) {
                subjects.add(s.subject);
            }
        }
        tell(Integer.bitCount(sectionsIn(column)), bits(subjects));
        return sectionsIn(column);
    }

    private TreeSet<Integer> columnsOf(int subject) {
        TreeSet<Integer> columns = new TreeSet<>();
        for (Section s : sections) {
            if (s.subject == subject && s.column != OUT) {
                columns.add(s.column);
            }
        }
        return columns;
    }

    private int choosers(int subject) {
        int b = 0;
        for (int p = 0; p < pupils.size(); p++) {
            b |= pupils.get(p).choices.contains(subject) ? 1 << p : 0;
        }
        return b;
    }

    int subject(int subject) {
        if (!isDigit(subject)) {
            return NONE;
        }
        int many = 0;
        int seats = 0;
        for (Section s : sections) {
            many += s.subject == subject ? 1 : 0;
            seats += s.subject == subject ? s.seats : 0;
        }
        tell(many, Integer.bitCount(choosers(subject)), seats);
        return bits(columnsOf(subject));
    }

    int pupil(int pupil) {
        if (!isPupil(pupil)) {
            return NONE;
        }
        Pupil p = pupils.get(pupil);
        tell(waysOf(p.choices).isEmpty() ? 0 : 1, p.kept ? 1 : 0);
        return bits(p.choices);
    }

    int legal(int section) {
        if (!isSection(section)) {
            return NONE;
        }
        TreeSet<Integer> columns = new TreeSet<>();
        for (int c = 0; c < n; c++) {
            if (sections.get(section).column == c || reason(sections.get(section), c) == 0) {
                columns.add(c);
            }
        }
        tell(columns.size());
        return bits(columns);
    }

    int why(int section, int column) {
        if (!isSection(section) || !isColumn(column)) {
            return NONE;
        }
        Section s = sections.get(section);
        return s.column == column ? 0 : reason(s, column);
    }

    // ---- who fits

    int fits() {
        tell(fitBits());
        return fitCount();
    }

    int ways(int pupil) {
        if (!isPupil(pupil)) {
            return NONE;
        }
        List<int[]> all = waysOf(pupils.get(pupil).choices);
        row = new ArrayList<>();
        if (!all.isEmpty()) {
            for (int c : all.get(0)) {
                row.add((long) c);
            }
        }
        return all.size();
    }

    int crowd(int pupil) {
        if (!isPupil(pupil)) {
            return NONE;
        }
        TreeSet<Integer> choices = pupils.get(pupil).choices;
        if (!waysOf(choices).isEmpty()) {
            return -2;
        }
        for (int size = 1; size <= choices.size(); size++) {
            for (int b = 1; b < 1024; b++) {
                TreeSet<Integer> set = members(b);
                if (set.size() == size && choices.containsAll(set)) {
                    TreeSet<Integer> columns = new TreeSet<>();
                    for (int subject : set) {
                        columns.addAll(columnsOf(subject));
                    }
                    if (columns.size() < size) {
                        tell(size, bits(columns));
                        return b;
                    }
                }
            }
        }
        throw new IllegalStateException("who does not fit has a crowd");
    }

    int sets(int k) {
        if (k < 1 || k > 6) {
            return NONE;
        }
        int all = 0;
        int good = 0;
        long first = NONE;
        for (int b = 1; b < 1024; b++) {
            if (Integer.bitCount(b) == k) {
                all++;
                if (!waysOf(members(b)).isEmpty()) {
                    good++;
                } else if (first == NONE) {
                    first = b;
                }
            }
        }
        tell(all, first);
        return good;
    }

    int both(int subject, int other) {
        if (!isDigit(subject) || !isDigit(other) || subject == other) {
            return NONE;
        }
        int who = choosers(subject) & choosers(other);
        tell(Integer.bitCount(who), Integer.bitCount(who & ~fitBits()));
        return who;
    }

    int clash() {
        int answer = -2;
        int most = 0;
        for (int a = 0; a < 10; a++) {
            for (int b = a + 1; b < 10; b++) {
                int many = Integer.bitCount(choosers(a) & choosers(b));
                if (columnsOf(a).size() == 1 && columnsOf(a).equals(columnsOf(b)) && many > most) {
                    most = many;
                    answer = 10 * a + b;
                    tell(many, columnsOf(a).first());
                }
            }
        }
        return answer;
    }

    // ---- moves

    int gain(int section, int column) {
        if (!isSection(section) || !isColumn(column)) {
            return NONE;
        }
        Section s = sections.get(section);
        if (s.column == column || reason(s, column) != 0) {
            return -1000;
        }
        int from = s.column;
        int before = fitBits();
        s.column = column;
        int after = fitBits();
        s.column = from;
        tell(after & ~before, before & ~after);
        return Integer.bitCount(after) - Integer.bitCount(before);
    }

    /** The best move and how many fit then, or null. */
    private int[] bestMove() {
        int before = fitBits();
        int[] found = null;
        int most = Integer.bitCount(before);
        for (int i = 0; i < sections.size(); i++) {
            Section s = sections.get(i);
            int from = s.column;
            for (int c = 0; c < n; c++) {
                if (from != c && reason(s, c) == 0) {
                    s.column = c;
                    if (fitCount() > most && held(before)) {
                        most = fitCount();
                        found = new int[] {i, c, most};
                    }
                    s.column = from;
                }
            }
        }
        return found;
    }

    int best() {
        int[] move = bestMove();
        if (move == null) {
            return -2;
        }
        tell(move[2]);
        return 100 * move[0] + move[1];
    }

    int climbs(int k) {
        if (k < 1 || k > 30) {
            return NONE;
        }
        int done = 0;
        for (int[] move = bestMove(); move != null && done < k; move = bestMove()) {
            sections.get(move[0]).column = move[1];
            done++;
        }
        tell(fitCount());
        return done;
    }

    int exchange() {
        int before = fitBits();
        int most = Integer.bitCount(before);
        int answer = -2;
        for (int i = 0; i < sections.size(); i++) {
            for (int j = i + 1; j < sections.size(); j++) {
                Section a = sections.get(i);
                Section b = sections.get(j);
                if (a.column != OUT && b.column != OUT && a.column != b.column) {
                    int ca = a.column;
                    int cb = b.column;
                    if (exchanged(a, b) && fitCount() > most && held(before)) {
                        most = fitCount();
                        answer = 100 * i + j;
                    }
                    a.column = ca;
                    b.column = cb;
                }
            }
        }
        if (answer != -2) {
            tell(most);
        }
        return answer;
    }

    int splits(int subject, int teacher) {
        if (!isDigit(subject) || !isDigit(teacher)) {
            return NONE;
        }
        Section s = new Section(subject, teacher, 1, OUT);
        sections.add(s);
        int answer = -2;
        int most = -1;
        for (int c = 0; c < n; c++) {
            s.column = OUT;
            if (reason(s, c) == 0) {
                s.column = c;
                if (fitCount() > most) {
                    most = fitCount();
                    answer = c;
                }
            }
        }
        sections.remove(sections.size() - 1);
        if (answer != -2) {
            tell(most);
        }
        return answer;
    }

    private boolean cured(int pupil, int before) {
        return !waysOf(pupils.get(pupil).choices).isEmpty() && held(before);
    }

    private List<Long> cure(int pupil, int before, int moves) {
        if (moves == 0) {
            return cured(pupil, before) ? new ArrayList<>() : null;
        }
        for (int i = 0; i < sections.size(); i++) {
            Section s = sections.get(i);
            int from = s.column;
            for (int c = 0; c < n; c++) {
                if (from == c || reason(s, c) == 0) {
                    s.column = c;
                    List<Long> rest = cure(pupil, before, moves - 1);
                    s.column = from;
                    if (rest != null) {
                        rest.add(0, 100L * i + c);
                        return rest;
                    }
                }
            }
        }
        return null;
    }

    int cures(int pupil) {
        if (!isPupil(pupil)) {
            return NONE;
        }
        int before = fitBits();
        for (int moves = 0; moves <= 2; moves++) {
            List<Long> found = cure(pupil, before, moves);
            if (found != null) {
                row = found;
                return moves;
            }
        }
        return -2;
    }

    int instead(int pupil) {
        if (!isPupil(pupil)) {
            return NONE;
        }
        TreeSet<Integer> choices = pupils.get(pupil).choices;
        if (!waysOf(choices).isEmpty()) {
            return -2;
        }
        List<Long> good = new ArrayList<>();
        for (int goes : choices) {
            for (int comes = 0; comes < 10; comes++) {
                TreeSet<Integer> then = new TreeSet<>(choices);
                then.remove(goes);
                if (!choices.contains(comes) && then.add(comes) && !waysOf(then).isEmpty()) {
                    good.add(10L * goes + comes);
                }
            }
        }
        tell(good.isEmpty() ? NONE : good.get(0));
        return good.size();
    }

    int spare() {
        int now = fitCount();
        int b = 0;
        int out = 0;
        for (int i = 0; i < sections.size(); i++) {
            Section s = sections.remove(i);
            if (fitCount() == now) {
                b |= 1 << i;
                out += s.column == OUT ? 1 : 0;
            }
            sections.add(i, s);
        }
        tell(out);
        return b;
    }

    int lays() {
        List<Section> order = new ArrayList<>(sections);
        order.sort((a, b) -> Integer.bitCount(choosers(b.subject)) - Integer.bitCount(choosers(a.subject)));
        for (Section s : sections) {
            s.column = OUT;
        }
        int in = 0;
        for (Section s : order) {
            int found = OUT;
            int most = -1;
            for (int c = 0; c < n; c++) {
                s.column = OUT;
                if (reason(s, c) == 0) {
                    s.column = c;
                    if (fitCount() > most) {
                        most = fitCount();
                        found = c;
                    }
                }
            }
            s.column = found;
            in += found == OUT ? 0 : 1;
        }
        tell(fitCount());
        return in;
    }

    // ---- seats

    /** Who sits in each SECTION, all being SEATED. */
    private List<TreeSet<Integer>> seating(boolean back) {
        List<TreeSet<Integer>> sitting = new ArrayList<>();
        for (int i = 0; i < sections.size(); i++) {
            sitting.add(new TreeSet<>());
        }
        for (int k = 0; k < pupils.size(); k++) {
            int p = back ? pupils.size() - 1 - k : k;
            List<Integer> order = new ArrayList<>(pupils.get(p).choices);
            for (int[] way : waysOf(pupils.get(p).choices)) {
                List<Integer> taken = new ArrayList<>();
                for (int i = 0; i < way.length; i++) {
                    for (int s = 0; s < sections.size() && taken.size() == i; s++) {
                        Section section = sections.get(s);
                        if (section.subject == order.get(i) && section.column == way[i]
                            && sitting.get(s).size() < section.seats) {
                            taken.add(s);
                        }
                    }
                }
                if (taken.size() == way.length) {
                    for (int s : taken) {
                        sitting.get(s).add(p);
                    }
                    break;
                }
            }
        }
        return sitting;
    }

    private int seatedBits(boolean back) {
        int b = 0;
        for (TreeSet<Integer> sitters : seating(back)) {
            b |= bits(sitters);
        }
        return b;
    }

    int seated(boolean back) {
        tell(seatedBits(back));
        return Integer.bitCount(seatedBits(back));
    }

    int sits(int section) {
        if (!isSection(section)) {
            return NONE;
        }
        TreeSet<Integer> sitters = seating(false).get(section);
        tell(sections.get(section).seats - sitters.size());
        return bits(sitters);
    }

    int lacking() {
        List<TreeSet<Integer>> sitting = seating(false);
        TreeSet<Integer> who = members(fitBits() & ~seatedBits(false));
        if (who.isEmpty()) {
            tell(NONE, NONE);
            return 0;
        }
        long lack = NONE;
        for (int subject : pupils.get(who.first()).choices) {
            boolean full = true;
            for (int i = 0; i < sections.size(); i++) {
                Section s = sections.get(i);
                full &= s.subject != subject || s.column == OUT || sitting.get(i).size() == s.seats;
            }
            if (full && lack == NONE) {
                lack = subject;
            }
        }
        tell(who.first(), lack);
        return bits(who);
    }

    int wants(int section) {
        if (!isSection(section)) {
            return NONE;
        }
        Section s = sections.get(section);
        int was = s.seats;
        int answer = -2;
        for (int more = 0; more <= 30 && answer == -2; more++) {
            s.seats = was + more;
            if (Integer.bitCount(seatedBits(false)) == fitCount()) {
                answer = more;
            }
        }
        s.seats = was;
        return answer;
    }

    int count(int what) {
        int b = 0;
        switch (what) {
            case 0: return n;
            case 1: return rooms;
            case 2: return sections.size();
            case 3: return sectionsIn(OUT);
            case 4: return pupils.size();
            case 5: return keptBits();
            case 6:
                for (int c = 0; c < n; c++) {
                    b |= Integer.bitCount(sectionsIn(c)) == rooms ? 1 << c : 0;
                }
                return b;
            case 7: return row.size();
            case 8: return text.length();
            case 9:
                for (int t = 0; t < 10; t++) {
                    int many = 0;
                    for (Section s : sections) {
                        many += s.teacher == t ? 1 : 0;
                    }
                    b |= many >= 2 ? 1 << t : 0;
                }
                return b;
            default: return NONE;
        }
    }
}
