/** Promises 27 to 30: COMPOSITES and GROUPS. */
public final class ComposingTest {
    public static void main(String[] args) {
        lost();
        musts();
        mostOfThem();
        composites();
        limits();
        usualLength();
        usualMusts();
        struckMust();
        groups();
        groupsOfLikeCost();
        eightMotions();
        Check.finish("ComposingTest");
    }

    private static void lost() {
        CardHall x = Check.hall(10);
        Check.orders(x, "length 3;");
        Check.due(27, "no motions", x.lost(3), -1);
        Check.motion(x, 0, "say 9; say 8; say 7;");
        Check.motion(x, 0, "say 9; say 1; say 2;");
        Check.motion(x, 0, "say not 8;");
        Check.motion(x, 0, "say 9; say 8 must;");
        Check.due(27, "8 and 9 and the least of the others", x.lost(0b0011), 2);
        Check.due(27, "none", x.lost(0b1001), 0);
        Check.due(27, "7 of one, 2 of the other", x.lost(0b1011), 2);
        Check.due(27, "contrary", x.lost(0b0101), -1);
        Check.due(27, "not contrary", x.lost(0b0110), 1);
        Check.due(27, "one alone", x.lost(0b0001), -1);
        Check.due(27, "none at all", x.lost(0), -1);
        Check.due(27, "one that is not", x.lost(0b10001), -1);
        Check.due(27, "a bit above all", x.lost(Integer.MIN_VALUE | 3), -1);
        x.decide(0);
        Check.due(27, "one that is lost", x.lost(0b0011), -1);
    }

    private static void musts() {
        CardHall x = Check.hall(10);
        Check.orders(x, "length 2;");
        Check.motion(x, 0, "say 5 must; say 1;");
        Check.motion(x, 0, "say 6 must; say 1;");
        Check.motion(x, 0, "say 7 must;");
        Check.motion(x, 0, "say 5 must; say 6;");
        Check.due(27, "as many musts as the length; 1 is lost for each motion", x.lost(0b0011), 2);
        Check.due(27, "each N once", x.lost(0b1011), 2);
        Check.due(27, "more musts than the length", x.lost(0b0111), -1);
        Check.due(28, "composite", x.composite(0b0111), -1);
        Check.due(28, "composite", x.composite(0b1011), 4);
        Check.lines(28, x, 4, "5! 6!");
    }

    /** N 60 is in as many of eight MOTIONS as told, N 1 in one less. */
    private static void mostOfThem() {
        for (int most = 2; most <= 8; most++) {
            CardHall x = Check.hall(10);
            Check.orders(x, "length 1;");
            for (int m = 0; m < 8; m++) {
                Check.motion(x, 0, (m < most ? "say 60;" : "say 50;") + (m > 0 && m < most ? "say 1;" : ""));
            }
            int lines = 8 + most - 1;
            int kept = Math.max(most, 8 - most);
            Check.due(27, "most " + most, x.lost(0xff), lines - kept);
            Check.due(28, "most " + most, x.composite(0xff), 8);
            Check.lines(28, x, 8, most >= 4 ? (most == 4 ? "50" : "60") : "50");
        }
        CardHall x = Check.hall(10);
        Check.orders(x, "length 3;");
        Check.motion(x, 0, "say 5; say 6; say 7; say 8;");
        Check.motion(x, 0, "say 8; say 7; say 6;");
        Check.motion(x, 0, "say 8; say 7; say 1 must;");
        Check.due(27, "of three, of two", x.lost(0b111), 3);
        x.composite(0b111);
        Check.lines(28, x, 3, "1! 7 8");
    }

    private static void composites() {
        CardHall x = Check.hall(10, 7);
        Check.orders(x, "length 4;");
        Check.motion(x, 0, "say 1;");
        Check.motion(x, 1, "say not 9 must; say 4; say 3;");
        Check.motion(x, 0, "say 50; say 4;");
        Check.motion(x, 0, "say not 9; say 50 must; say 2;");
        Check.amend(x, 1, "add 5;");
        Check.amend(x, 0, "add 5;");
        x.casts(1, 100, 1);
        x.decide(100);
        Check.lines(28, x, 1, "-9! 4 3 5@0");
        Check.amend(x, 1, "add 6;");
        Check.due(28, "one that is not", x.composite(0b11110), -1);
        Check.due(28, "composite", x.composite(0b1110), 4);
        Check.lines(28, x, 4, "2 4 -9! 50!");
        int[] want = {0, 4, 4, 4, 0};
        for (int m = 0; m < want.length; m++) {
            Check.due(28, "how " + m, x.how(m), want[m]);
        }
        Check.due(28, "amendments of the composed", x.how(102), 3);
        Check.due(28, "what passed", x.how(100), 1);
        Check.due(28, "amendments of others", x.how(101), 0);
        Check.due(28, "twice", x.composite(0b1110), -1);
        Check.due(28, "of a composite", x.composite(0b10001), 5);
        Check.lines(28, x, 5, "1 2 -9! 50!");
        x.casts(0, 5, 1);
        Check.due(28, "it is decided as any", x.decide(5), 1);
        Check.due(28, "stands", x.stands(9), -1);
        Check.due(21, "composed ones are not open", x.decide(1), -1);
        Check.due(28, "motions", x.count(4), 6);
    }

    private static void limits() {
        CardHall x = Check.hall(10);
        for (int i = 0; i < 23; i++) {
            Check.motion(x, 0, "say " + (i + 1) + ";");
        }
        Check.due(27, "eight", x.lost(0xff), 0);
        Check.due(27, "nine", x.lost(0x1ff), -1);
        Check.due(28, "nine", x.composite(0x1ff), -1);
        Check.due(28, "the 24th", x.composite(0xff), 23);
        Check.lines(28, x, 23, "1 2 3 4 5 6 7 8");
        Check.due(28, "a 25th", x.composite(0x300), -1);
        Check.due(27, "which could be", x.lost(0x300), 0);
    }

    private static final String SEVEN = "say 1;say 2;say 3;say 4;say 5;say 6;say 7;";
    private static final String OTHER_SEVEN = "say 11;say 12;say 13;say 14;say 15;say 16;say 17;";

    /** Where no ORDERS tell a length it is 12, and so it is again as ORDERS come that don't tell one. */
    private static void usualLength() {
        CardHall x = Check.hall(10);
        Check.motion(x, 0, SEVEN);
        Check.motion(x, 0, OTHER_SEVEN);
        Check.motion(x, 0, "say 21;say 22;say 23;say 24;say 25;");
        Check.due(27, "twelve, without ORDERS", x.lost(0b101), 0);
        Check.due(27, "fourteen, without ORDERS", x.lost(0b011), 2);
        Check.orders(x, "rate 10; bind;");
        Check.due(27, "twelve, length is not told", x.lost(0b101), 0);
        Check.due(27, "fourteen, length is not told", x.lost(0b011), 2);
        Check.orders(x, "length 11; length 10;");
        Check.due(27, "ORDERS that are OPEN tell nothing", x.lost(0b101), 0);
        x.casts(0, 201, 1);
        x.decide(201);
        Check.due(27, "ten is told last", x.lost(0b011), 4);
        Check.orders(x, "bind;");
        x.casts(0, 202, 1);
        x.decide(202);
        Check.due(27, "told no more", x.lost(0b011), 2);
        Check.due(29, "one group, two lost", x.group(0b011, 1), 2);
        Check.due(29, "one group, none lost", x.group(0b101, 1), 0);
        x.closing(0);
        x.day(1);
        Check.due(28, "composites are never late", x.composite(0b011), 3);
        Check.lines(28, x, 3, "1 2 3 4 5 6 7 11 12 13 14 15");
    }

    private static void usualMusts() {
        CardHall x = Check.hall(10);
        Check.motion(x, 0, SEVEN.replace(";", " must;"));
        Check.motion(x, 0, OTHER_SEVEN.replace(";", " must;").substring(0, 12 * 5));
        Check.motion(x, 0, "say 60 must;");
        Check.due(27, "twelve musts", x.lost(0b011), 0);
        Check.due(27, "thirteen musts", x.lost(0b111), -1);
        Check.due(28, "thirteen musts", x.composite(0b111), -1);
        Check.due(29, "thirteen musts", x.group(0b111, 1), -1);
        Check.due(28, "twelve musts", x.composite(0b011), 3);
        Check.lines(28, x, 3, "1! 2! 3! 4! 5! 6! 7! 11! 12! 13! 14! 15!");
    }

    private static void groups() {
        CardHall x = Check.hall(10);
        Check.orders(x, "length 2;");
        Check.due(29, "no motions", x.group(1, 1), -1);
        Check.motion(x, 0, "say 1; say 2;");
        Check.motion(x, 0, "say 3; say 4;");
        Check.motion(x, 0, "say 1; say 2 must;");
        Check.motion(x, 0, "say not 1;");
        Check.due(29, "one alone", x.group(2, 1), 0);
        Check.due(30, "one alone", x.grouped(2, 1, 1), 0);
        Check.due(29, "two like ones", x.group(0b101, 8), 0);
        Check.due(30, "the fewest groups", x.grouped(0b101, 8, 2), 0);
        Check.due(29, "all alone or with the like", x.group(0b1111, 4), 0);
        Check.due(30, "of 0", x.grouped(0b1111, 4, 0), 0);
        Check.due(30, "of 1", x.grouped(0b1111, 4, 1), 1);
        Check.due(30, "of 2", x.grouped(0b1111, 4, 2), 0);
        Check.due(30, "of 3", x.grouped(0b1111, 4, 3), 2);
        Check.due(29, "two groups", x.group(0b1111, 2), 1);
        Check.due(30, "of 1", x.grouped(0b1111, 2, 1), 1);
        Check.due(30, "of 3", x.grouped(0b1111, 2, 3), 1);
        Check.due(29, "one group", x.group(0b1111, 1), -1);
        Check.due(30, "one group", x.grouped(0b1111, 1, 0), -1);
        Check.due(29, "n 0", x.group(1, 0), -1);
        Check.due(29, "n 9", x.group(1, 9), -1);
        Check.due(29, "no bits", x.group(0, 1), -1);
        Check.due(29, "one that is not", x.group(16, 1), -1);
        Check.due(29, "a negative bit", x.group(Integer.MIN_VALUE | 1, 1), -1);
        Check.due(30, "not among them", x.grouped(0b0111, 3, 3), -1);
        Check.due(30, "no such one", x.grouped(0b0111, 3, -1), -1);
        Check.due(30, "no such one", x.grouped(0b0111, 3, 24), -1);
        x.decide(1);
        Check.due(29, "one that is lost", x.group(0b0010, 1), -1);
        Check.due(36, "nothing is made", x.count(4), 4);
    }

    private static void groupsOfLikeCost() {
        CardHall x = Check.hall(10);
        Check.orders(x, "length 1;");
        Check.motion(x, 0, "say 1;");
        Check.motion(x, 0, "say 2;");
        Check.motion(x, 0, "say 3;");
        Check.motion(x, 0, "say 4;");
        // Any two of these together lose one LINE; three groups are one pair: the first is 0 with 1.
        Check.due(29, "one pair", x.group(0b1111, 3), 1);
        int[] pair = {0, 0, 1, 2};
        for (int m = 0; m < 4; m++) {
            Check.due(30, "one pair, of " + m, x.grouped(0b1111, 3, m), pair[m]);
        }
        // Two groups lose two LINES either way: 0 0 0 1 comes ahead of 0 0 1 1.
        Check.due(29, "two groups", x.group(0b1111, 2), 2);
        int[] three = {0, 0, 0, 1};
        for (int m = 0; m < 4; m++) {
            Check.due(30, "two groups, of " + m, x.grouped(0b1111, 2, m), three[m]);
        }
    }

    private static void eightMotions() {
        CardHall x = Check.hall(10);
        for (int i = 0; i < 9; i++) {
            Check.motion(x, 0, "say " + (i % 2 == 0 ? "" : "not ") + "1; say " + (i + 2) + ";");
        }
        Check.due(29, "eight", x.group(0xff, 8), 0);
        for (int m = 0; m < 8; m++) {
            Check.due(30, "eight, of " + m, x.grouped(0xff, 8, m), m % 2);
        }
        Check.due(29, "eight in one", x.group(0xff, 1), -1);
        Check.due(29, "nine", x.group(0x1ff, 8), -1);
    }

    private static void struckMust() {
        CardHall x = Check.hall(10);
        Check.orders(x, "length 1;");
        Check.motion(x, 0, "say 1; say 2 must;");
        Check.motion(x, 0, "say 2;");
        Check.motion(x, 0, "say 3 must;");
        Check.due(27, "two musts", x.lost(0b101), -1);
        Check.amend(x, 0, "strike 2;");
        x.casts(0, 100, 1);
        x.decide(100);
        Check.due(27, "one must alone", x.lost(0b101), 1);
        Check.due(28, "the least N of like ones", x.composite(0b011), 3);
        Check.lines(28, x, 3, "1");
    }
}
