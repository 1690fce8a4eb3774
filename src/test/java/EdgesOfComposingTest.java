/** Promises 27 to 30 at their edges: how many MOTIONS, how many LINES, which bits, how many GROUPS. */
public final class EdgesOfComposingTest {
    private static final int MIN = Integer.MIN_VALUE;
    private static final int MAX = Integer.MAX_VALUE;

    public static void main(String[] args) {
        twoToEight();
        bitsOfMotions();
        theTwentyFourthMotion();
        openOnesAlone();
        contraryOfEachNumber();
        contraryOfTheFirstAndTheLast();
        mustsUpToTheLength();
        eachMustOnce();
        lengthOne();
        lengthTwelve();
        ofLikeOnesTheLeast();
        mustOfOneAlone();
        lostOfEachForItself();
        rowsBesideOneAnother();
        linesOfTheMover();
        twentyFourAreThere();
        groupNumbers();
        groupsOfBits();
        moreGroupsThanMotions();
        noneCanBe();
        theFewestGroups();
        groupsAreNumberedAsTheyCome();
        oneAloneMayHaveTooManyMusts();
        amongThem();
        askingChangesNothing();
        Check.finish("EdgesOfComposingTest");
    }

    private static void none(int promise, String what, int... got) {
        for (int i = 0; i < got.length; i++) {
            Check.due(promise, what + " (" + i + ")", got[i], -1);
        }
    }

    private static String says(int first, int last, String behind) {
        StringBuilder text = new StringBuilder();
        for (int n = first; n <= last; n++) {
            text.append("say ").append(n).append(behind).append(";");
        }
        return text.toString();
    }

    /** A hall of MOTIONS by their texts, by ORDERS. */
    private static CardHall of(String orders, String... texts) {
        CardHall x = Check.hall(10);
        Check.orders(x, orders);
        for (int m = 0; m < texts.length; m++) {
            Check.due(13, texts[m], Check.motion(x, 0, texts[m]), m);
        }
        return x;
    }

    private static CardHall many(int motions) {
        CardHall x = Check.hall(10);
        for (int m = 0; m < motions; m++) {
            Check.motion(x, 0, "say " + (m + 1) + ";");
        }
        return x;
    }

    /** "A COMPOSITE of 2 to 8 OPEN MOTIONS". */
    private static void twoToEight() {
        for (int many = 0; many <= 10; many++) {
            CardHall x = many(10);
            int bits = (1 << many) - 1;
            boolean can = many >= 2 && many <= 8;
            Check.due(27, "lost of " + many, x.lost(bits), can ? 0 : -1);
            Check.due(28, "composite of " + many, x.composite(bits), can ? 10 : -1);
            Check.due(36, "open behind " + many, x.count(10), can ? 11 - many : 10);
            Check.due(36, "motions", x.count(4), can ? 11 : 10);
            if (can) {
                Check.lines(28, x, 10, "1 2 3 4 5 6 7 8".substring(0, many * 2 - 1));
            }
        }
    }

    /** "... of MOTIONS as bits. NONE: it can't be." */
    private static void bitsOfMotions() {
        CardHall x = many(3);
        int[] no = {0, 1, 2, 4, 8, 9, 15, 24, 1 << 23 | 1, 1 << 24 | 3, 1 << 30 | 3, MIN | 3, MIN, -1, MAX, MIN | 7, 0x100 | 3};
        for (int bits : no) {
            none(27, "bits " + bits, x.lost(bits), x.composite(bits));
        }
        for (int bits : new int[] {3, 5, 6, 7}) {
            Check.due(27, "bits " + bits, x.lost(bits), 0);
        }
        Check.due(36, "nothing came", x.count(4), 3);
    }

    /** The 24th MOTION has the highest bit of all. */
    private static void theTwentyFourthMotion() {
        CardHall x = many(24);
        int last = 1 << 23;
        Check.due(27, "the first and the last", x.lost(last | 1), 0);
        Check.due(27, "the last two", x.lost(last | last >> 1), 0);
        Check.due(29, "the last alone", x.group(last, 1), 0);
        Check.due(30, "the last alone", x.grouped(last, 1, 23), 0);
        Check.due(33, "the last alone", x.inOrder(last, 1, 0), 0);
        Check.due(34, "the last alone", x.best(last, 0, 0), 23);
        Check.due(34, "the last of two", x.best(last | 1, 0, 1), 23);
        Check.due(34, "the last eight are too many", x.best(0xff << 16, 0, 1), -1000);
        Check.due(29, "the last eight", x.group(0xff << 16, 1), 0);
        none(27, "a bit behind it", x.lost(last << 1), x.lost(last << 1 | 1), x.lost(last << 1 | 3), x.group(last << 1, 1),
            x.group(last << 1 | 1, 1), x.grouped(last << 1 | 1, 1, 0));
        Check.due(33, "a bit behind it", x.inOrder(last << 1, 1, 0), -1000);
        Check.due(33, "a bit behind it", x.inOrder(last << 1 | 1, 1, 0), -1000);
        Check.due(34, "a bit behind it", x.best(last << 1 | 1, 0, -1), -1000);
        Check.due(28, "no more motions", x.composite(last | 1), -1);
        CardHall y = many(23);
        none(27, "no 24th yet", y.lost(last | 1), y.composite(last | 1), y.group(last, 1));
        Check.due(33, "no 24th yet", y.inOrder(last, 1, 0), -1000);
        Check.due(28, "a composite is the 24th", y.composite(3), 23);
        Check.due(29, "which is open", y.group(last | 4, 1), 0);
        Check.due(27, "and can be composed", y.lost(last | 4), 0);
    }

    private static void openOnesAlone() {
        CardHall x = of("", "say 1;", "say not 1;", "say 2;", "say 3;", "say 4;", "say 5;");
        x.casts(0, 0, 1);
        x.decide(0);
        x.decide(2);
        x.composite(0b11000);
        // 0 is passed, 1 fallen, 2 lost, 3 and 4 composed to 6; 5 and 6 are open.
        Check.due(27, "both open", x.lost(0b1100000), 0);
        for (int m = 0; m < 5; m++) {
            int bits = 1 << m | 0b100000;
            none(27, "with " + m, x.lost(bits), x.composite(bits), x.group(bits, 8), x.group(1 << m, 1), x.grouped(bits, 8, 5));
            Check.due(33, "with " + m, x.inOrder(bits, 12, 0), -1000);
            Check.due(34, "with " + m, x.best(bits, 0, -1), -1000);
        }
    }

    /** "It can be, if no two have the contrary of one N". */
    private static void contraryOfEachNumber() {
        for (int n = 1; n <= 60; n++) {
            CardHall x = of("", "say " + n + ";", "say not " + n + ";", "say not " + n + " must;", "say " + (n % 60 + 1) + ";");
            none(27, "contrary " + n, x.lost(0b0011), x.lost(0b0101), x.lost(0b0111), x.lost(0b1011), x.group(0b0011, 1));
            Check.due(27, "both not " + n, x.lost(0b0110), 0);
            Check.due(27, "not contrary " + n, x.lost(0b1001), 0);
            Check.due(27, "not contrary, not " + n, x.lost(0b1110), 0);
            Check.due(29, "in two", x.group(0b0111, 2), 0);
            Check.due(28, "composite", x.composite(0b1110), 4);
            Check.lines(28, x, 4, n == 60 ? "1 -60!" : "-" + n + "! " + (n + 1));
        }
    }

    private static void contraryOfTheFirstAndTheLast() {
        CardHall x = of("", "say 1;", "say 2;", "say 3;", "say 4;", "say 5;", "say 6;", "say 7;", "say 8; say not 1;");
        none(27, "of eight the first and the last", x.lost(0xff), x.composite(0xff), x.group(0xff, 1));
        Check.due(27, "without the first", x.lost(0xfe), 0);
        Check.due(27, "without the last", x.lost(0x7f), 0);
        Check.due(29, "in two", x.group(0xff, 2), 0);
        Check.due(30, "the last", x.grouped(0xff, 2, 7), 1);
    }

    /** "... and their must LINES (each N once) are no more than length." */
    private static void mustsUpToTheLength() {
        for (int length = 1; length <= 12; length++) {
            CardHall x = of("length " + length + ";", says(1, length, " must"), "say 1; say 60;", "say 60 must;",
                "say " + length + " must; say 59;");
            Check.due(27, "as many musts as " + length, x.lost(0b0011), 1);
            none(27, "one more than " + length, x.lost(0b0101), x.lost(0b0111), x.composite(0b0101), x.group(0b0101, 1));
            Check.due(27, "no must twice", x.lost(0b1001), 1);
            Check.due(28, "composite", x.composite(0b1011), 4);
            StringBuilder want = new StringBuilder();
            for (int n = 1; n <= length; n++) {
                want.append(n > 1 ? " " : "").append(n).append("!");
            }
            Check.lines(28, x, 4, want.toString());
        }
    }

    private static void eachMustOnce() {
        CardHall x = of("length 2;", "say 1 must; say not 2 must;", "say not 2 must; say 1 must;", "say 1 must;",
            "say not 2; say 1; say 3;");
        Check.due(27, "two musts in all of them", x.lost(0b1111), 1);
        Check.due(28, "composite", x.composite(0b1111), 4);
        Check.lines(28, x, 4, "1! -2!");
    }

    /** "Others as far as length goes": length 1. */
    private static void lengthOne() {
        CardHall x = of("length 1;", "say 9; say 8;", "say 8; say 7;", "say 7 must;", "say 6;", "say 9;");
        Check.due(27, "one line of three", x.lost(0b00011), 2);
        Check.due(27, "the must alone", x.lost(0b00111), 3);
        Check.due(27, "of like ones the least", x.lost(0b01001), 2);
        Check.due(28, "composite", x.composite(0b01001), 5);
        Check.lines(28, x, 5, "6");
        Check.due(28, "composite", x.composite(0b00110), 6);
        Check.lines(28, x, 6, "7!");
    }

    /** Length 12 is as many LINES as a MOTION may have. */
    private static void lengthTwelve() {
        CardHall x = of("length 12;", says(49, 60, ""), says(1, 12, ""), says(49, 60, " must"), says(37, 48, " must"),
            "say 49; say 1;");
        Check.due(27, "all twelve", x.lost(0b00101), 0);
        Check.due(27, "the musts alone", x.lost(0b00111), 12);
        none(27, "24 musts", x.lost(0b01100), x.composite(0b01100), x.group(0b01100, 1));
        Check.due(27, "1 and 49 of two, then the least", x.lost(0b10011), 11 + 1);
        Check.due(28, "composite", x.composite(0b10011), 5);
        Check.lines(28, x, 5, "1 2 3 4 5 6 7 8 9 10 11 49");
        Check.due(28, "with the musts", x.composite(0b100100), 6);
        Check.lines(28, x, 6, "49! 50! 51! 52! 53! 54! 55! 56! 57! 58! 59! 60!");
    }

    /** "Those that most of them have first, of like ones the least N; they stand by N". */
    private static void ofLikeOnesTheLeast() {
        CardHall x = of("length 3;", "say 60; say 31; say 32;", "say 33; say 60; say 2;", "say 2; say not 1;");
        Check.due(27, "2 and 60 of two, then 1", x.lost(0b111), 3);
        x.composite(0b111);
        Check.lines(28, x, 3, "-1 2 60");
        CardHall y = of("length 2;", "say not 59; say 60;", "say 58; say not 57;");
        Check.due(27, "the least two of four", y.lost(0b11), 2);
        y.composite(0b11);
        Check.lines(28, y, 2, "-57 58");
    }

    /** "Must is what is must in one of them." */
    private static void mustOfOneAlone() {
        CardHall x = of("", "say 1; say 2;", "say 1 must; say 3;", "say 1; say 3 must;", "say 4;");
        x.composite(0b1111);
        Check.lines(28, x, 4, "1! 2 3! 4");
        CardHall y = of("length 2;", "say 1; say 2; say 9;", "say 1; say 2;", "say 9 must; say 1;");
        Check.due(27, "a must goes ahead of what most have", y.lost(0b111), 2);
        y.composite(0b111);
        Check.lines(28, y, 3, "1 9!");
    }

    /** "How many LINES of these MOTIONS, those of each MOTION counted for itself, it hasn't." */
    private static void lostOfEachForItself() {
        String twelve = says(1, 12, "");
        CardHall x = of("length 1;", twelve, twelve, twelve, twelve, twelve, twelve, twelve, twelve);
        Check.due(27, "eleven of each of two", x.lost(0b11), 22);
        Check.due(27, "eleven of each of eight", x.lost(0xff), 88);
        Check.due(29, "in one group", x.group(0xff, 1), 88);
        Check.due(29, "each alone", x.group(0xff, 8), 0);
        CardHall y = of("", twelve, says(13, 24, ""), says(25, 36, ""), says(37, 48, ""), says(49, 60, ""), twelve, twelve, twelve);
        Check.due(27, "all sixty, twelve are kept of four", y.lost(0xff), 48);
    }

    /** Rows of LINES that are full on both sides of one: none takes a LINE or a must of its neighbours. */
    private static void rowsBesideOneAnother() {
        CardHall x = of("length 2;", says(1, 12, " must"), "say 13;", "say 14; say 15;", says(16, 27, " must"), "say 28; say 29 must;");
        Check.due(27, "none is must", x.lost(0b00110), 1);
        Check.due(27, "one is must", x.lost(0b10010), 1);
        Check.due(27, "one is must", x.lost(0b10100), 2);
        x.composite(0b10010);
        Check.lines(28, x, 5, "13 29!");
        CardHall y = of("", says(1, 12, ""), "say not 12; say 20;", "say not 1;", says(1, 11, ""), "say not 11;", "say 12;");
        Check.due(27, "not contrary to a neighbour's neighbour", y.lost(0b000110), 0);
        Check.due(27, "nor of the row behind", y.lost(0b010110), 0);
        Check.due(27, "nor the last", y.lost(0b101000), 0);
        none(27, "contrary ones", y.lost(0b000011), y.lost(0b000101), y.lost(0b010001), y.lost(0b100010), y.lost(0b011000));
        y.casts(0, 5, 1);
        y.decide(5);
        int[] how = {0, 3, 0, 0, 0, 1};
        for (int m = 0; m < how.length; m++) {
            Check.due(21, "how " + m, y.how(m), how[m]);
        }
    }

    /** "(of the least one's mover; all LINES of the mover's), and they are COMPOSED." */
    private static void linesOfTheMover() {
        CardHall x = of("", "say 1;", "say 2 must;", "say 3;");
        Check.amend(x, 1, "add 9; turn 2;");
        Check.amend(x, 1, "add 10;");
        x.casts(0, 100, 1);
        x.decide(100);
        Check.lines(28, x, 1, "-2!@0 9@0");
        Check.due(28, "composite", x.composite(0b110), 3);
        Check.lines(28, x, 3, "-2! 3 9");
        Check.due(24, "composed", x.how(1) * 10 + x.how(2), 44);
        Check.due(24, "its open amendment", x.how(101), 3);
        Check.lines(28, x, 1, "-2!@0 9@0");
        Check.due(28, "open", x.how(3), 0);
        Check.due(14, "it can be amended", Check.amend(x, 3, "strike 2;"), 2);
    }

    /** "NONE: it can't be, 24 are there." */
    private static void twentyFourAreThere() {
        CardHall x = many(22);
        Check.due(28, "the 23rd", x.composite(0b11), 22);
        Check.due(28, "the 24th", x.composite(0b1100), 23);
        none(28, "a 25th", x.composite(0b110000), x.composite(1 << 22 | 1 << 23));
        Check.due(27, "though it can be", x.lost(0b110000), 0);
        Check.due(24, "open still", x.how(4) + x.how(5) + x.how(22) + x.how(23), 0);
        Check.due(36, "open", x.count(10), 20);
    }

    /** "N GROUPS (1 to 8) at most ... NONE: no such ones". */
    private static void groupNumbers() {
        CardHall x = many(8);
        for (int n = 1; n <= 8; n++) {
            Check.due(29, n + " groups at most", x.group(0xff, n), 0);
            Check.due(30, n + " groups at most", x.grouped(0xff, n, 7), 0);
        }
        for (int n : new int[] {0, 9, -1, 16, MIN, MAX}) {
            none(29, n + " groups", x.group(0xff, n), x.grouped(0xff, n, 0), x.group(1, n), x.grouped(1, n, 0));
        }
    }

    /** "TO GROUP some OPEN MOTIONS (1 to 8)". */
    private static void groupsOfBits() {
        CardHall x = many(9);
        for (int many = 0; many <= 9; many++) {
            int bits = (1 << many) - 1;
            Check.due(29, "of " + many, x.group(bits, 1), many >= 1 && many <= 8 ? 0 : -1);
            Check.due(30, "of " + many, x.grouped(bits, 1, 0), many >= 1 && many <= 8 ? 0 : -1);
        }
        for (int bits : new int[] {1 << 9, 1 << 9 | 1, 1 << 24, 1 << 24 | 1, MIN, MIN | 1, -1, MAX}) {
            none(29, "bits " + bits, x.group(bits, 8), x.grouped(bits, 8, 0));
        }
    }

    private static void moreGroupsThanMotions() {
        CardHall x = of("", "say 1;", "say not 1;");
        for (int n = 2; n <= 8; n++) {
            Check.due(29, "two in " + n, x.group(0b11, n), 0);
            Check.due(30, "the second", x.grouped(0b11, n, 1), 1);
            Check.due(29, "one in " + n, x.group(0b10, n), 0);
        }
    }

    /** "NONE: ... none can be." */
    private static void noneCanBe() {
        CardHall x = of("length 1;", "say 1 must;", "say 2 must;", "say 3 must;", "say 4 must;", "say 5 must;", "say 6 must;",
            "say 7 must;", "say 8 must;");
        for (int n = 1; n <= 8; n++) {
            Check.due(29, "eight of one must each in " + n, x.group(0xff, n), n == 8 ? 0 : -1);
            for (int m = 0; m < 8; m++) {
                Check.due(30, m + " in " + n, x.grouped(0xff, n, m), n == 8 ? m : -1);
            }
        }
    }

    /** "The fewest LOST LINES together; of several the fewest GROUPS; of these the first". */
    private static void theFewestGroups() {
        // 0 goes with 1 or 2, 1 with 0 or 3, 4 with none: 0 and 1 together would make four GROUPS, yet come first.
        CardHall x = of("", "say 1; say 2;", "say 3; say 4;", "say not 3; say 5; say 6;", "say not 1; say not 5; say 7;",
            "say not 2; say not 4; say not 6; say not 7;");
        int[] want = {0, 1, 0, 1, 2};
        for (int n = 3; n <= 8; n++) {
            Check.due(29, "nothing is lost in " + n, x.group(0b11111, n), 0);
            for (int m = 0; m < 5; m++) {
                Check.due(30, m + " in " + n, x.grouped(0b11111, n, m), want[m]);
            }
        }
        none(29, "three at least", x.group(0b11111, 2), x.group(0b11111, 1));
        // Fewer GROUPS lose LINES: the fewest LOST LINES go ahead.
        CardHall y = of("length 1;", "say 1;", "say 2;", "say 1;");
        int[] lost = {1, 0, 0};
        for (int n = 1; n <= 3; n++) {
            Check.due(29, "in " + n, y.group(0b111, n), lost[n - 1]);
            Check.due(30, "1 in " + n, y.grouped(0b111, n, 1), n == 1 ? 0 : 1);
            Check.due(30, "2 in " + n, y.grouped(0b111, n, 2), 0);
        }
    }

    /** "GROUPS are numbered as their first MOTION comes". */
    private static void groupsAreNumberedAsTheyCome() {
        CardHall x = of("", "say 50;", "say 1;", "say 51;", "say not 1; say 2;", "say 52;", "say not 2; say 1;", "say not 1; say not 2;",
            "say 53;");
        int bits = 0b01101010;
        int[] want = {-1, 0, -1, 1, -1, 0, 2, -1};
        for (int m = 0; m < 8; m++) {
            Check.due(30, "of " + m, x.grouped(bits, 8, m), want[m]);
        }
        Check.due(30, "the second alone", x.grouped(0b00001000, 8, 3), 0);
        Check.due(30, "the later of two", x.grouped(0b01001000, 8, 6), 1);
    }

    /** "... of one alone, or such as can be a COMPOSITE": one alone is not composed, whatever the length. */
    private static void oneAloneMayHaveTooManyMusts() {
        CardHall x = of("length 1;", says(1, 12, " must"), says(1, 12, ""), "say 20; say 21;");
        Check.due(29, "one alone", x.group(0b001, 1), 0);
        Check.due(29, "each alone", x.group(0b111, 3), 0);
        Check.due(29, "in two, the last two together", x.group(0b111, 2), 13);
        Check.due(30, "the first", x.grouped(0b111, 2, 0), 0);
        Check.due(30, "the second", x.grouped(0b111, 2, 1), 1);
        Check.due(30, "the third", x.grouped(0b111, 2, 2), 1);
        none(29, "in one", x.group(0b111, 1), x.group(0b011, 1));
    }

    /** "NONE likewise, or it isn't among them." */
    private static void amongThem() {
        CardHall x = many(24);
        int bits = 1 << 23 | 1 << 5;
        Check.due(30, "5", x.grouped(bits, 1, 5), 0);
        Check.due(30, "23", x.grouped(bits, 1, 23), 0);
        for (int m : new int[] {-1, 0, 4, 6, 22, 24, 31, 37, 100, MIN, MAX}) {
            none(30, "not among them, " + m, x.grouped(bits, 1, m), x.grouped(bits, 8, m));
        }
    }

    private static void askingChangesNothing() {
        CardHall x = of("length 2;", "say 1; say 2;", "say 3; say 4;", "say 1;", "say not 1;");
        for (int round = 0; round < 2; round++) {
            Check.due(27, "lost", x.lost(0b011), 2);
            Check.due(29, "group", x.group(0b1111, 2), 1);
            Check.due(30, "grouped", x.grouped(0b1011, 3, 3), 2);
            none(27, "refused", x.lost(0b1001), x.composite(0b1001), x.group(0b1001, 1));
        }
        x.group(0b1111, 4);
        x.lost(0b101);
        Check.due(28, "composite", x.composite(0b011), 4);
        Check.lines(28, x, 4, "1 2");
    }
}
