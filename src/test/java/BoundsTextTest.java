/** Boundary by boundary: THE TEXT (promises 2 and 3) and what is read of it (promises 4 and 5). */
public final class BoundsTextTest {
    private static final int LEAST = Integer.MIN_VALUE;
    private static final int GREATEST = Integer.MAX_VALUE;
    private static final int MOST_SIGNS = 240;
    private static final Checks CHECKS = new Checks();

    private BoundsTextTest() {
    }

    public static void main(String[] args) {
        signsUpTo240();
        highestByteFirst();
        refusedSignLeavesTheText();
        endAtEachSize();
        firstSignsAlone();
        deskInPlaceOfAll();
        eachSignOfADesk();
        deskThatEndsTooEarly();
        signsThatAreGone();
        nothingOfARefusedDesk();
        deskHead();
        barsOfATeacherOnce();
        barsRising();
        seatsOneToThirty();
        columnThatIsNotLegal();
        seventeenthSection();
        nothingCouldStand();
        longestDesk();
        pupilsInPlaceOfThose();
        eachSignOfPupils();
        choicesOneToSix();
        pupilsUpTo24();
        emptyPupils();
        readingEmptiesTheText();
        CHECKS.close("BoundsTextTest");
    }

    // ---- what the tests below share

    private static OptionLattice withSigns(int many) {
        OptionLattice x = new OptionLattice();
        for (int i = 0; i < (many + 3) / 4; i++) {
            x.sign(0x33783720);
        }
        x.end(many);
        return x;
    }

    /** The usual desk with a ROW, but without a TEXT. */
    private static OptionLattice usual() {
        OptionLattice x = Fixture.usual().get();
        x.end(0);
        return x;
    }

    private static void goodDesk(String text, int sections) {
        OptionLattice x = usual();
        CHECKS.due("4: " + text, Checks.desk(x, text), sections);
        CHECKS.due("4: THE TEXT behind " + text, x.count(8), 0);
        CHECKS.dueLook("4: the ROW behind " + text, Look.row(x), Look.row(usual()));
        CHECKS.due("4: n of " + text, x.count(0), text.charAt(0) - '0');
        CHECKS.due("4: ROOMS of " + text, x.count(1), text.charAt(2) - '0');
        CHECKS.due("4: SECTIONS of " + text, x.count(2), sections);
        CHECKS.due("4: no PUPILS behind " + text, x.count(4), 0);
    }

    private static void badDesk(String text, int p) {
        OptionLattice x = usual();
        CHECKS.due("4: " + text, Checks.desk(x, text), -21 - p);
        leftAsItWas("4: " + text, x);
    }

    private static void goodPupils(String text, int many) {
        OptionLattice x = usual();
        CHECKS.due("5: " + text, Checks.pupils(x, text), many);
        CHECKS.due("5: THE TEXT behind " + text, x.count(8), 0);
        CHECKS.due("5: PUPILS of " + text, x.count(4), many);
        CHECKS.due("5: none KEPT of " + text, x.count(5), 0);
        CHECKS.dueLook("5: the ROW behind " + text, Look.row(x), Look.row(usual()));
    }

    private static void badPupils(String text, int p) {
        OptionLattice x = usual();
        CHECKS.due("5: " + text, Checks.pupils(x, text), -21 - p);
        leftAsItWas("5: " + text, x);
    }

    private static void leftAsItWas(String call, OptionLattice x) {
        OptionLattice before = usual();
        CHECKS.due(call + ": THE TEXT", x.count(8), 0);
        CHECKS.dueLook(call + ": the ROW", Look.row(x), Look.row(before));
        CHECKS.dueLook(call + ": the state", Look.state(x), Look.state(before));
        CHECKS.due(call + ": nothing of THE TEXT is left", Checks.desk(x, "3x4"), 0);
    }

    private static String lines(int many, String line) {
        StringBuilder t = new StringBuilder();
        for (int i = 0; i < many; i++) {
            t.append(line);
        }
        return t.toString();
    }

    // ---- promise 2

    private static void signsUpTo240() {
        for (int many = 0; many <= MOST_SIGNS; many++) {
            OptionLattice x = withSigns(many);
            CHECKS.due("2: signs so far", x.count(8), many);
            boolean room = many + 4 <= MOST_SIGNS;
            CHECKS.due("2: four behind " + many, x.sign(0x3B303030), room ? many + 4 : -1);
            CHECKS.due("2: signs behind " + many, x.count(8), room ? many + 4 : many);
        }
    }

    private static void highestByteFirst() {
        OptionLattice x = new OptionLattice();
        x.sign(0x34783520);
        x.end(3);
        CHECKS.due("2: 4x5", x.desk(), 0);
        CHECKS.due("2: n", x.count(0), 4);
        int[] bent = {0xB4783520, 0x34F83520, 0x3478B520, 0x347835A0, -1, LEAST, GREATEST, 0};
        int[] faults = {0, 1, 2, 3, 0, 0, 0, 0};
        for (int i = 0; i < bent.length; i++) {
            CHECKS.due("2: sign(" + bent[i] + ")", x.sign(bent[i]), 4);
            CHECKS.due("2: sign(" + bent[i] + "), the byte that is wrong", x.desk(), -21 - faults[i]);
        }
    }

    private static void refusedSignLeavesTheText() {
        for (int many = 237; many <= MOST_SIGNS; many++) {
            OptionLattice x = withSigns(many);
            x.fits();
            CHECKS.due("2: refused behind " + many, x.sign(0x3B303030), -1);
            CHECKS.dueRow("2: the ROW behind " + many, x, 0);
            CHECKS.due("2: the signs are the same behind " + many, x.desk(), -21 - 3);
            x = withSigns(many);
            x.sign(-1);
            CHECKS.due("3: its first signs are the same", x.end(3), true);
            CHECKS.due("2: 3x7", x.desk(), 0);
            CHECKS.due("2: n", x.count(0), 3);
        }
    }

    // ---- promise 3

    private static void endAtEachSize() {
        for (int many : new int[] {0, 1, 3, 4, 5, 239, 240}) {
            for (int n : new int[] {LEAST, LEAST + many, -240, -4, -2, -1, many + 1, many + 2, 241, 256 + many, GREATEST}) {
                OptionLattice x = withSigns(many);
                CHECKS.due("3: end(" + n + ") of " + many, x.end(n), false);
                CHECKS.due("3: signs behind it", x.count(8), many);
            }
            for (int n : new int[] {0, many / 2, Math.max(0, many - 1), many}) {
                OptionLattice x = withSigns(many);
                x.fits();
                CHECKS.due("3: end(" + n + ") of " + many, x.end(n), true);
                CHECKS.due("3: signs behind it", x.count(8), n);
                CHECKS.dueRow("3: the ROW", x, 0);
                CHECKS.due("3: those that went are gone", x.end(n + 1), false);
            }
        }
        CHECKS.leaves("3: end(13) of 12", Fixture.usual(), x -> x.end(13) ? 1 : 0, 0);
        CHECKS.leaves("3: end(-1) of 12", Fixture.usual(), x -> x.end(-1) ? 1 : 0, 0);
        CHECKS.leaves("3: end(12) of 12", Fixture.usual(), x -> x.end(12) ? 1 : 0, 1);
    }

    private static void firstSignsAlone() {
        OptionLattice x = new OptionLattice();
        Checks.tell(x, "2x8;0t0z9@1");
        CHECKS.due("3: without @1", x.end(9), true);
        Checks.tell(x, ";b10");
        CHECKS.due("3: the next ones come behind those", x.desk(), 1);
        CHECKS.due("3: OUT", x.section(0, 3), -2);
        CHECKS.due("3: BARS", x.bars(1, 0, true), -2);
    }

    // ---- promise 4

    private static void deskInPlaceOfAll() {
        OptionLattice x = usual();
        x.bars(5, 3, true);
        CHECKS.due("4: six lines less", Checks.desk(x, "2x1;b91;7t8z30"), 1);
        CHECKS.dueLook("4: the ROW", Look.row(x), Look.row(usual()));
        String state = "counts 2 1 1 1 0 0 0 0\nSECTION 0 7 8 30 -2\nBARS";
        for (int t = 0; t < 9; t++) {
            state += " (" + t + " free free)";
        }
        CHECKS.dueLook("4: nothing else is left", Look.state(x), state + " (9 free barred)\n");
        CHECKS.due("4: nor a PUPIL", x.pupil(0), -1);
        CHECKS.due("4: subjects without SECTIONS", x.subject(0), 0);
        CHECKS.dueRow("4: subjects without SECTIONS", x, 0, 0, 0);
        CHECKS.due("4: the same PUPILS once more", Checks.pupils(x, Fixture.PUPILS), 6);
        CHECKS.due("4: none of them is KEPT", x.count(5), 0);
        CHECKS.due("4: a desk of none", Checks.desk(x, "6x9"), 0);
        CHECKS.due("4: no BARS", x.bars(9, 1, false), -2);
    }

    /** Each sign, 0 to 255, at each place of the document's own desk: those that can't stand there are told by place. */
    private static void eachSignOfADesk() {
        String own = "4x5;b203;0t2z20@1";
        String digits = "0123456789";
        String[] canStand = {
            "123456", "x", "123456789", ";", "b" + digits, digits, "0123", "123;", ";",
            "b" + digits, "t", digits, "z", "123456789", digits + "@;", "@;", "12", ";",
        };
        for (int p = 0; p < canStand.length; p++) {
            for (char c = 0; c < 256; c++) {
                String text = own.substring(0, p) + c + (p < own.length() ? own.substring(p + 1) : "");
                int answer = Checks.desk(new OptionLattice(), text);
                boolean fault = canStand[p].indexOf(c) < 0;
                CHECKS.due("4: sign " + (int) c + " at " + p + " can't stand there", answer == -21 - p, fault);
            }
        }
        CHECKS.due("4: the own one", Checks.desk(new OptionLattice(), own), 1);
    }

    private static void deskThatEndsTooEarly() {
        String own = "4x5;b203;0t2z20@1";
        int[] good = {3, 7, 8, 14, 15, 17};
        for (int many = 0; many <= own.length(); many++) {
            boolean whole = false;
            for (int g : good) {
                whole |= g == many;
            }
            if (whole) {
                goodDesk(own.substring(0, many), many > 8 ? 1 : 0);
            } else {
                badDesk(own.substring(0, many), many);
            }
        }
    }

    /** Signs that were there once and are gone by end() are read by nobody. */
    private static void signsThatAreGone() {
        String own = "4x5;b203;0t2z20@1";
        for (int many = 0; many <= own.length(); many++) {
            OptionLattice x = new OptionLattice();
            Checks.tell(x, own);
            x.end(many);
            CHECKS.due("4: the first " + many + " signs alone", x.desk(), Checks.desk(new OptionLattice(), own.substring(0, many)));
        }
        String choices = "013,9,245678,6";
        for (int many = 0; many <= choices.length(); many++) {
            OptionLattice x = new OptionLattice();
            Checks.tell(x, choices);
            x.end(many);
            CHECKS.due("5: the first " + many + " signs alone", x.pupils(),
                Checks.pupils(new OptionLattice(), choices.substring(0, many)));
        }
        OptionLattice x = new OptionLattice();
        Checks.desk(x, "4x5;0t0z1@0;b10;");
        CHECKS.due("4: nor those of a text that was read", Checks.desk(x, "4x5"), 0);
        CHECKS.due("4: nor those of a text that was read", Checks.desk(x, "4"), -22);
    }

    /** What a refused text told before its fault comes to no later desk. */
    private static void nothingOfARefusedDesk() {
        for (int teacher = 0; teacher < 10; teacher++) {
            OptionLattice x = new OptionLattice();
            CHECKS.due("4: refused", Checks.desk(x, "6x9;b" + teacher + "012345;0t0z1;"), -21 - 19);
            CHECKS.due("4: one SECTION", Checks.desk(x, "6x9;1t" + teacher + "z1"), 1);
            CHECKS.due("4: no BARS", x.legal(0), 63);
            CHECKS.due("4: no SECTION of 0", x.subject(0), 0);
            CHECKS.dueRow("4: no SECTION of 0", x, 0, 0, 0);
            CHECKS.due("4: BARS again", Checks.desk(x, "6x9;b" + teacher + "0"), 0);
            CHECKS.due("4: those alone", x.bars(teacher, 5, true), 33);
        }
        OptionLattice x = new OptionLattice();
        CHECKS.due("4: refused", Checks.desk(x, "2x9;3t3z1@1;4t4z1@1;"), -21 - 20);
        CHECKS.due("4: another desk", Checks.desk(x, "2x9;3t3z1"), 1);
        CHECKS.due("4: no COLUMN of 3", x.subject(3), 0);
        CHECKS.due("4: no COLUMN of 4", x.subject(4), 0);
    }

    private static void deskHead() {
        for (int n = 1; n <= 6; n++) {
            goodDesk(n + "x5", 0);
        }
        for (int m = 1; m <= 9; m++) {
            goodDesk("4x" + m, 0);
        }
        badDesk("0x5", 0);
        badDesk("7x5", 0);
        badDesk("9x5", 0);
        badDesk("10x5", 1);
        badDesk("04x5", 0);
        badDesk("4X5", 1);
        badDesk("4x0", 2);
        badDesk("4x05", 2);
        badDesk("4x10", 3);
        badDesk("4x5,", 3);
        badDesk("4x5;;", 4);
        badDesk("4x5;b20;;", 8);
        badDesk(" 4x5", 0);
        badDesk("4x5 ", 3);
        badDesk("-4x5", 0);
    }

    private static void barsOfATeacherOnce() {
        goodDesk("4x5;b20;b30", 0);
        badDesk("4x5;b20;b21", 9);
        badDesk("4x5;b20;b20", 9);
        badDesk("4x5;b20;b30;b23", 13);
        goodDesk("4x5;0t2z1;b30", 1);
        badDesk("4x5;0t2z1;b23", 11);
        badDesk("4x5;0t2z1@1;b23", 13);
        badDesk("4x5;b00;b01", 9);
        badDesk("4x5;b90;b91", 9);
        badDesk("4x5;0t0z1;b03", 11);
        badDesk("4x5;0t9z1;b93", 11);
        goodDesk("4x5;b20;0t2z1;1t2z1", 2);
        badDesk("4x5;b20;0t2z1;b21", 15);
        goodDesk("1x1;b00;b10;b20;b30;b40;b50;b60;b70;b80;b90", 0);
        goodDesk("4x5;2t0z1;b20", 1);
    }

    private static void barsRising() {
        badDesk("4x5;b2", 6);
        badDesk("4x5;b2;", 6);
        goodDesk("4x5;b20", 0);
        goodDesk("4x5;b23", 0);
        badDesk("4x5;b24", 6);
        badDesk("4x5;b29", 6);
        badDesk("4x5;b200", 7);
        badDesk("4x5;b210", 7);
        badDesk("4x5;b233", 7);
        badDesk("4x5;b2032", 8);
        goodDesk("4x5;b20123", 0);
        badDesk("4x5;b201234", 10);
        goodDesk("6x5;b2012345", 0);
        badDesk("6x5;b20123456", 12);
        badDesk("6x5;b26", 6);
        goodDesk("1x5;b20", 0);
        badDesk("1x5;b21", 6);
        badDesk("1x5;b201", 7);
        OptionLattice x = new OptionLattice();
        Checks.desk(x, "6x5;b2024;b7135");
        int[] bits = {0b010101, 0b101010};
        for (int column = 0; column < 6; column++) {
            CHECKS.due("4: BARS of 2", x.bars(2, column, true) == -2, (bits[0] >> column & 1) == 1);
            CHECKS.due("4: BARS of 7", x.bars(7, column, true) == -2, (bits[1] >> column & 1) == 1);
        }
    }

    private static void seatsOneToThirty() {
        for (int seats = 0; seats <= 99; seats++) {
            if (seats >= 1 && seats <= 30) {
                goodDesk("4x5;0t1z" + seats, 1);
                OptionLattice x = new OptionLattice();
                Checks.desk(x, "4x5;0t1z" + seats + "@3");
                CHECKS.due("4: SEATS " + seats, x.section(0, 2), seats);
                CHECKS.due("4: SEATS " + seats + " and COLUMN", x.section(0, 3), 3);
            } else {
                int last = seats < 10 ? 8 : 9;
                badDesk("4x5;0t1z" + seats, last);
                badDesk("4x5;0t1z" + seats + "@1", last);
            }
        }
        badDesk("4x5;0t1z", 8);
        badDesk("4x5;0t1z@1", 8);
        badDesk("4x5;0t1z00", 8);
        badDesk("4x5;0t1z01", 8);
        badDesk("4x5;0t1z100", 10);
        badDesk("4x5;0t1z300", 10);
        badDesk("4x5;0t1z310", 9);
        badDesk("4x5;0t1z-1", 8);
    }

    private static void columnThatIsNotLegal() {
        goodDesk("4x5;0t1z9@3", 1);
        badDesk("4x5;0t1z9@4", 10);
        badDesk("4x5;0t1z9@9", 10);
        badDesk("4x5;0t1z9@00", 11);
        badDesk("4x5;0t1z9@", 10);
        badDesk("4x5;0t1z9@;", 10);
        goodDesk("1x5;0t1z9@0", 1);
        badDesk("1x5;0t1z9@1", 10);
        goodDesk("6x5;0t1z9@5", 1);
        badDesk("6x5;0t1z9@6", 10);
        goodDesk("4x5;0t1z9@2;1t1z9@3", 2);
        badDesk("4x5;0t1z9@2;1t1z9@2", 18);
        goodDesk("4x5;0t1z9@2;0t2z9@2", 2);
        goodDesk("4x5;b13;0t1z9@2", 1);
        badDesk("4x5;b13;0t1z9@3", 14);
        goodDesk("4x5;b13;0t2z9@3", 1);
        goodDesk("4x1;0t0z1@0;1t1z1@1", 2);
        badDesk("4x1;0t0z1@0;1t1z1@0", 18);
        goodDesk("4x2;0t0z1@0;1t1z1@0;2t2z1@1", 3);
        badDesk("4x2;0t0z1@0;1t1z1@0;2t2z1@0", 26);
        goodDesk("4x1;0t0z1;1t0z1@0;2t0z1", 3);
        String nine = "1x9";
        for (int i = 0; i < 9; i++) {
            nine += ";0t" + i + "z1@0";
        }
        goodDesk(nine, 9);
        badDesk(nine + ";0t9z1@0", 82);
        goodDesk(nine + ";0t9z1", 10);
    }

    private static void seventeenthSection() {
        String sixteen = "1x9" + lines(16, ";0t0z1");
        goodDesk("1x9" + lines(15, ";0t0z1"), 15);
        goodDesk(sixteen, 16);
        badDesk(sixteen + ";0t0z1", 100);
        badDesk(sixteen + ";9", 100);
        badDesk(sixteen + ";0t0z1;0t0z1", 100);
        badDesk(sixteen + ";", 100);
        goodDesk(sixteen + ";b10", 16);
        badDesk(sixteen + ";b10;0t0z1", 104);
        badDesk(sixteen + ";b00", 101);
        badDesk("1x9" + lines(15, ";0t0z1") + ";0t0z0;0t0z1", 98);
    }

    /** Promise 4 tells where these faults are, so they are there even if no other sign could stand there either. */
    private static void nothingCouldStand() {
        badDesk("1x1;0t0z1@0;1t1z1@0", 18);
        badDesk("1x1;0t0z1@0;1t1z1@", 18);
        badDesk("2x5;b101;0t1z1@1", 15);
        String all = "1x1;b00;b10;b20;b30;b40;b50;b60;b70;b80;b90";
        badDesk(all + ";b00", 45);
        badDesk(all + ";b", 45);
        badDesk(all + ";b90", 45);
    }

    /** Of 16 SECTIONS in COLUMNS and BARS of all others this is as long as a text can be that is good. */
    private static void longestDesk() {
        String text = "6x9";
        for (int t = 3; t < 10; t++) {
            text += ";b" + t + "012345";
        }
        for (int i = 0; i < 16; i++) {
            text += ";9t" + i / 6 + "z30@" + i % 6;
        }
        CHECKS.due("4: signs", text.length(), 210);
        goodDesk(text, 16);
        badDesk(text + ";b3", 212);
        String signs = text + ";0t0z0" + lines(24, " ");
        CHECKS.due("4: signs", signs.length(), MOST_SIGNS);
        badDesk(signs, 211);
        badDesk("4x5;b2" + lines(234, "0"), 7);
    }

    // ---- promise 5

    private static void pupilsInPlaceOfThose() {
        OptionLattice x = usual();
        CHECKS.due("5: two", Checks.pupils(x, "9,0"), 2);
        CHECKS.due("5: none KEPT", x.count(5), 0);
        CHECKS.due("5: the first", x.pupil(0), 512);
        CHECKS.due("5: the second", x.pupil(1), 1);
        CHECKS.due("5: no third", x.pupil(2), -1);
        CHECKS.due("5: SECTIONS stay", x.count(2), 6);
        CHECKS.due("5: KEPT", x.keeps(1, true), 1);
        CHECKS.due("5: the same ones again", Checks.pupils(x, "9,0"), 2);
        CHECKS.due("5: none KEPT", x.count(5), 0);
        CHECKS.due("5: is not", x.keeps(1, false), -2);
    }

    private static void eachSignOfPupils() {
        String own = "013,9,245678,6";
        String[] canStand = {
            "0123456789", "123456789,", "23456789,", "456789,", "0123456789", ",", "0123456789", "3456789,",
            "56789,", "6789,", "789,", "89,", ",", "0123456789", "789,",
        };
        for (int p = 0; p < canStand.length; p++) {
            for (char c = 0; c < 256; c++) {
                String text = own.substring(0, p) + c + (p < own.length() ? own.substring(p + 1) : "");
                int answer = Checks.pupils(new OptionLattice(), text);
                boolean fault = canStand[p].indexOf(c) < 0;
                CHECKS.due("5: sign " + (int) c + " at " + p + " can't stand there", answer == -21 - p, fault);
            }
        }
        for (int many = 1; many <= own.length(); many++) {
            String text = own.substring(0, many);
            int pupils = text.split(",", -1).length;
            if (text.endsWith(",")) {
                badPupils(text, many);
            } else {
                goodPupils(text, pupils);
            }
        }
    }

    private static void choicesOneToSix() {
        String[] good = {"0", "9", "01", "89", "01234", "012345", "456789", "024689"};
        int[] bits = {1, 512, 3, 768, 31, 63, 1008, 853};
        for (int i = 0; i < good.length; i++) {
            goodPupils(good[i], 1);
            OptionLattice x = new OptionLattice();
            Checks.pupils(x, good[i]);
            CHECKS.due("5: CHOICES of " + good[i], x.pupil(0), bits[i]);
        }
        badPupils("0123456", 6);
        badPupils("3456789", 6);
        badPupils("0,0123456,1", 8);
        badPupils("0123456789", 6);
        badPupils("00", 1);
        badPupils("10", 1);
        badPupils("011", 2);
        badPupils("0132", 3);
        badPupils("99", 1);
        badPupils(",", 0);
        badPupils(",0", 0);
        badPupils("0,", 2);
        badPupils("0,,1", 2);
        badPupils("0;1", 1);
        badPupils("0 ", 1);
        goodPupils("1,0,1", 3);
    }

    private static void pupilsUpTo24() {
        goodPupils(Fixture.pupils(23, "9"), 23);
        goodPupils(Fixture.pupils(24, "9"), 24);
        badPupils(Fixture.pupils(25, "9"), 47);
        badPupils(Fixture.pupils(26, "9"), 47);
        badPupils(Fixture.pupils(24, "9") + ",", 47);
        badPupils(Fixture.pupils(24, "9") + ",a", 47);
        badPupils(Fixture.pupils(24, "9") + "9", 47);
        badPupils(Fixture.pupils(23, "9") + ",", 46);
        goodPupils(Fixture.pupils(24, "456789"), 24);
        badPupils(Fixture.pupils(25, "456789"), 167);
        badPupils(Fixture.pupils(24, "012345") + "6", 167);
        OptionLattice x = new OptionLattice();
        Checks.pupils(x, Fixture.pupils(23, "9") + ",456789");
        CHECKS.due("5: the 24th", x.pupil(23), 1008);
        CHECKS.due("5: no 25th", x.pupil(24), -1);
    }

    private static void emptyPupils() {
        OptionLattice x = usual();
        CHECKS.due("5: an empty one", x.pupils(), 0);
        CHECKS.due("5: none", x.count(4), 0);
        CHECKS.due("5: none KEPT", x.count(5), 0);
        CHECKS.due("5: no such", x.pupil(0), -1);
        CHECKS.due("5: nobody FITS", x.fits(), 0);
        CHECKS.due("5: SECTIONS stay", x.count(2), 6);
        CHECKS.due("5: an empty one of a new object", new OptionLattice().pupils(), 0);
        CHECKS.due("4: an empty desk ends too early", new OptionLattice().desk(), -21);
    }

    // ---- term 2: a call that can read THE TEXT empties it

    private static void readingEmptiesTheText() {
        String[] texts = {"4x5", "01", "4x5;b203;0t2z20@1", "x", "0,", ""};
        for (String text : texts) {
            OptionLattice x = usual();
            Checks.tell(x, text);
            x.desk();
            CHECKS.due("2: desk() of " + text, x.count(8), 0);
            CHECKS.due("2: no sign is left", x.end(1), false);
            CHECKS.due("2: the next one is the first", x.sign(0x34783520), 4);
            x = usual();
            Checks.tell(x, text);
            x.pupils();
            CHECKS.due("2: pupils() of " + text, x.count(8), 0);
            CHECKS.due("2: no sign is left", x.end(1), false);
            CHECKS.due("2: the next one is the first", x.sign(0x34783520), 4);
        }
    }
}
