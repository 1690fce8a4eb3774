/** Promises 31 to 35: OTHER RULES, WORTHS, MOTIONS IN AN ORDER, DEALS. */
public final class WouldTest {
    public static void main(String[] args) {
        otherRules();
        wouldIsByTheOrders();
        worths();
        inOrder();
        fallenAside();
        againstInOrder();
        best();
        deals();
        dealsOfLikeSums();
        dealsNeedVoices();
        eachAffiliateAsOne();
        contraryStandsInOrder();
        dealsOnOneAlone();
        dealsOfLaterOnes();
        Check.finish("WouldTest");
    }

    private static void all(CardHall x, int matter, int cards, int paid, int affiliates, int branches) {
        Check.due(31, "by cards", x.would(matter, 0), cards);
        Check.due(31, "by paid heads", x.would(matter, 1), paid);
        Check.due(31, "by affiliates", x.would(matter, 2), affiliates);
        Check.due(31, "by branches", x.would(matter, 3), branches);
    }

    private static void otherRules() {
        CardHall x = Check.hall(100, 30, 20);
        x.branch(1, 1);
        x.branch(1, 1);
        x.branch(1, 1);
        Check.due(31, "no matter", x.would(0, 0), -1);
        Check.motion(x, 0, "say 1;");
        x.casts(0, 0, 1);
        x.casts(1, 0, 0);
        x.casts(2, 0, 0);
        all(x, 0, 1, 1, 0, 0);
        x.mandate(3, 0, 1);
        x.mandate(4, 0, 1);
        x.mandate(0, 0, 0);
        all(x, 0, 1, 1, 0, 1);
        Check.due(31, "nothing is decided", x.how(0), 0);
        Check.due(31, "how 4", x.would(0, 4), -1);
        Check.due(31, "how -1", x.would(0, -1), -1);
        Check.orders(x, "cards 1000 - heads;");
        all(x, 0, 0, 1, 0, 1);
        x.decide(0);
        Check.due(31, "not open", x.would(0, 0), -1);
    }

    private static void wouldIsByTheOrders() {
        CardHall x = Check.hall(100, 30, 20);
        x.branch(1, 1);
        x.branch(1, 1);
        Check.orders(x, "pass motion if all = 3 and yes = 1 and no = 2 and sections = 1 and day = 2 and against = 1;"
            + "pass order if all = 5 and sections = 2; pass amend if against = 1 and all = 150;");
        x.day(2);
        Check.motion(x, 0, "say 1;");
        x.casts(0, 0, 1);
        x.casts(1, 0, 0);
        x.casts(2, 0, 0);
        all(x, 0, 0, 0, 0, 0);
        Check.orders(x, "");
        x.mandate(0, 201, 1);
        x.mandate(1, 201, 0);
        x.mandate(3, 201, 1);
        x.mandate(4, 201, 1);
        all(x, 201, 0, 0, 0, 1);
        Check.amend(x, 0, "turn 1; add 2;");
        all(x, 100, 0, 0, 0, 0);
        CardHall y = Check.hall(10, 10);
        Check.orders(y, "pass motion if yes > no and against = 0; pass amend if against = 1;");
        Check.motion(y, 0, "say 1;");
        y.casts(0, 0, 1);
        y.decide(0);
        Check.motion(y, 0, "say not 1;");
        y.casts(0, 1, 1);
        all(y, 1, 0, 0, 0, 0);
        Check.amend(y, 1, "add 3;");
        Check.amend(y, 1, "turn 1;");
        all(y, 100, 1, 1, 1, 1);
        all(y, 101, 0, 0, 0, 0);
        Check.lines(31, y, 1, "-1");
    }

    private static void worths() {
        CardHall x = Check.hall(10, 10);
        Check.due(32, "no motion", x.worth(0, 0, 1), false);
        Check.motion(x, 0, "say 1;");
        x.casts(0, 0, 1);
        Check.due(32, "at first", x.inOrder(1, 1, 0), 0);
        Check.due(32, "worth 10", x.worth(0, 0, 10), false);
        Check.due(32, "worth -10", x.worth(0, 0, -10), false);
        Check.due(32, "no affiliate", x.worth(2, 0, 1), false);
        Check.due(32, "no affiliate", x.worth(-1, 0, 1), false);
        Check.due(32, "no motion", x.worth(0, 1, 1), false);
        Check.due(32, "no motion", x.worth(0, -1, 1), false);
        Check.due(32, "worth 9", x.worth(0, 0, 9), true);
        Check.due(32, "worth -9", x.worth(1, 0, -9), true);
        Check.due(32, "for one", x.inOrder(1, 1, 0), 9);
        Check.due(32, "for the other", x.inOrder(1, 1, 1), -9);
        x.worth(0, 0, 3);
        Check.due(32, "told anew", x.inOrder(1, 1, 0), 3);
        Check.due(36, "no telling", x.count(3), 5);
        x.decide(0);
        Check.due(32, "of one that is passed", x.worth(0, 0, 1), true);
    }

    private static CardHall three() {
        CardHall x = Check.hall(10, 3);
        Check.motion(x, 0, "say 1;");
        Check.motion(x, 0, "say 40;");
        Check.motion(x, 0, "say not 1; say 2;");
        Check.motion(x, 0, "say not 2;");
        for (int m = 0; m < 4; m++) {
            x.casts(0, m, 1);
        }
        x.worth(0, 0, 1);
        x.worth(0, 1, 9);
        x.worth(0, 2, 4);
        x.worth(0, 3, -2);
        return x;
    }

    private static void inOrder() {
        CardHall x = three();
        Check.due(33, "0 2 3", x.inOrder(0b1101, 123, 0), -1);
        Check.due(33, "2 0 3", x.inOrder(0b1101, 213, 0), 4);
        Check.due(33, "3 2 0", x.inOrder(0b1101, 321, 0), -1);
        Check.due(33, "for another", x.inOrder(0b1101, 321, 1), 0);
        Check.due(33, "one alone", x.inOrder(0b0100, 1, 0), 4);
        Check.due(33, "no affiliate", x.inOrder(0b1101, 123, 2), -1000);
        Check.due(33, "no affiliate", x.inOrder(0b1101, 123, -1), -1000);
        Check.due(33, "a figure twice", x.inOrder(0b1101, 122, 0), -1000);
        Check.due(33, "a figure of 0", x.inOrder(0b1101, 120, 0), -1000);
        Check.due(33, "a figure above", x.inOrder(0b1101, 124, 0), -1000);
        Check.due(33, "too few figures", x.inOrder(0b1101, 12, 0), -1000);
        Check.due(33, "too many figures", x.inOrder(0b1101, 1123, 0), -1000);
        Check.due(33, "negative", x.inOrder(0b1101, -123, 0), -1000);
        Check.due(33, "order 0", x.inOrder(0b1101, 0, 0), -1000);
        Check.due(33, "no motions", x.inOrder(0, 0, 0), -1000);
        Check.due(33, "one that is not", x.inOrder(0b10001, 12, 0), -1000);
        Check.due(33, "bits below 0", x.inOrder(Integer.MIN_VALUE, 1, 0), -1000);
        Check.due(33, "nothing is changed", x.count(10) + x.count(8) + x.count(11), 4);
        x.casts(0, 1, 3);
        x.decide(1);
        Check.due(33, "one that is lost", x.inOrder(0b0010, 1, 0), -1000);
        CardHall z = Check.hall(10, 3);
        Check.orders(z, "pass motion if yes > no and against = 0 or day = 0;");
        Check.motion(z, 0, "say not 1; say not 2;");
        z.decide(0);
        z.day(1);
        Check.motion(z, 0, "say 3;");
        Check.motion(z, 0, "say 1;");
        Check.motion(z, 0, "say not 4;");
        for (int m = 1; m < 4; m++) {
            z.casts(0, m, 1);
            z.worth(0, m, m);
        }
        Check.due(33, "what stands still stands", z.inOrder(0b1110, 132, 0), 4);
        Check.due(33, "what stands still stands", z.inOrder(0b1110, 123, 0), 4);
        for (int m = 4; m < 9; m++) {
            Check.motion(x, 0, "say 5;");
        }
        Check.due(33, "six", x.inOrder(0b111111000, 123456, 0), -2);
        Check.due(33, "seven", x.inOrder(0b111111100, 1234567, 0), -1000);
    }

    private static void fallenAside() {
        CardHall x = Check.hall(10, 3);
        Check.motion(x, 0, "say 1;");
        Check.motion(x, 0, "say not 1; say 3;");
        Check.motion(x, 0, "say not 3;");
        for (int m = 0; m < 3; m++) {
            x.casts(m == 0 ? 1 : 0, m, m == 0 ? 0 : 1);
            x.worth(1, m, m + 1);
        }
        Check.due(33, "one that loses makes none fall", x.inOrder(0b111, 123, 1), 2);
        Check.due(33, "one that fell makes none fall", x.inOrder(0b111, 231, 1), 2);
        Check.due(33, "the other way", x.inOrder(0b111, 321, 1), 3);
        Check.amend(x, 1, "strike 3;");
        x.casts(0, 100, 1);
        Check.due(33, "no amendments", x.inOrder(0b111, 123, 1), 2);
    }

    private static void againstInOrder() {
        CardHall x = Check.hall(10, 3);
        Check.orders(x, "pass motion if yes > no and against = 0;");
        Check.motion(x, 0, "say 1;");
        x.casts(0, 0, 1);
        x.decide(0);
        Check.motion(x, 0, "say not 1;");
        Check.motion(x, 0, "say 1; say 5;");
        x.casts(0, 1, 1);
        x.casts(0, 2, 1);
        x.worth(0, 1, 7);
        x.worth(0, 2, 2);
        Check.due(33, "against what stands", x.inOrder(0b110, 12, 0), 2);
        CardHall y = Check.hall(10, 3);
        Check.orders(y, "pass motion if against = 1 or day = 0;");
        Check.motion(y, 0, "say 1; say 2;");
        y.decide(0);
        y.day(1);
        Check.motion(y, 0, "say not 1; say not 2;");
        Check.motion(y, 0, "say not 2;");
        Check.motion(y, 0, "say not 1;");
        for (int m = 1; m < 4; m++) {
            y.worth(0, m, 1);
        }
        Check.due(33, "what stands by then", y.inOrder(0b1110, 123, 0), 1);
        Check.due(33, "the last is against no more", y.inOrder(0b1110, 231, 0), 2);
        Check.due(33, "half of it is against", y.inOrder(0b1110, 213, 0), 2);
        Check.due(34, "best", y.best(0b1110, 0, -1), 2);
        Check.due(34, "first", y.best(0b1110, 0, 0), 2);
        Check.due(34, "second", y.best(0b1110, 0, 1), 1);
        Check.due(34, "third", y.best(0b1110, 0, 2), 3);
    }

    private static void best() {
        CardHall x = three();
        Check.due(34, "worth", x.best(0b1111, 0, -1), 13);
        int[] want = {1, 2, 0, 3};
        for (int i = 0; i < 4; i++) {
            Check.due(34, "at " + i, x.best(0b1111, 0, i), want[i]);
        }
        Check.due(34, "no place", x.best(0b1111, 0, 4), -1000);
        Check.due(34, "no place", x.best(0b1111, 0, -2), -1000);
        Check.due(34, "no affiliate", x.best(0b1111, 2, -1), -1000);
        Check.due(34, "no motions", x.best(0, 0, -1), -1000);
        Check.due(34, "one that is not", x.best(0b10000, 0, -1), -1000);
        Check.due(34, "all alike: the first", x.best(0b1111, 1, 0), 0);
        Check.due(34, "all alike", x.best(0b1111, 1, -1), 0);
        Check.due(34, "all below 0", x.best(0b1000, 0, -1), -2);
        for (int i = 0; i < 3; i++) {
            Check.motion(x, 0, "say 50;");
        }
        Check.due(34, "six", x.best(0b111111, 0, 5), 5);
        Check.due(34, "seven", x.best(0b1111111, 0, 0), -1000);
    }

    private static void deals() {
        CardHall x = Check.hall(10, 10, 1);
        for (int m = 0; m < 4; m++) {
            Check.motion(x, 2, "say " + (m + 1) + ";");
        }
        Check.due(35, "no voices", x.deal(0), -1);
        // 0 is for its motion 1 and 1 for its motion 2; each time the other is against, so both are lost.
        x.casts(0, 1, 1);
        x.casts(1, 1, 0);
        x.casts(0, 2, 0);
        x.casts(1, 2, 1);
        x.worth(0, 1, 6);
        x.worth(0, 2, -2);
        x.worth(1, 2, 5);
        x.worth(1, 1, -4);
        int[] want = {0, 1, 2, 1, 4, 1};
        for (int what = 0; what < 6; what++) {
            Check.due(35, "deal(" + what + ")", x.deal(what), want[what]);
        }
        Check.due(35, "deal(6)", x.deal(6), -1);
        Check.due(35, "deal(-1)", x.deal(-1), -1);
        x.worth(1, 1, -5);
        Check.due(35, "a gain of 0", x.deal(0), -1);
        x.worth(1, 1, -4);
        x.worth(0, 2, -6);
        Check.due(35, "a gain of 0", x.deal(0), -1);
        x.worth(0, 2, -2);
        x.decide(2);
        Check.due(35, "one is no more open", x.deal(0), -1);
        // What passes can be lost by a deal as well.
        CardHall y = Check.hall(10, 10);
        Check.motion(y, 0, "say 1;");
        Check.motion(y, 0, "say 2;");
        y.casts(0, 0, 1);
        y.casts(1, 1, 1);
        y.worth(0, 1, -8);
        y.worth(0, 0, 3);
        y.worth(1, 0, -7);
        y.worth(1, 1, 6);
        int[] due = {0, 1, 0, 1, 5, 1};
        for (int what = 0; what < 6; what++) {
            Check.due(35, "deal(" + what + ")", y.deal(what), due[what]);
        }
        Check.due(35, "nothing is told", y.count(3), 6);
        y.worth(0, 1, -3);
        y.worth(0, 0, 3);
        y.worth(1, 1, 0);
        y.worth(1, 0, -9);
        Check.due(35, "one gains nothing, the other 9", y.deal(0), -1);
        Check.motion(y, 0, "say 3;");
        y.casts(0, 2, 1);
        y.worth(0, 2, -1);
        y.worth(1, 2, -1);
        int[] small = {0, 1, 2, 1, 4, 1};
        for (int what = 0; what < 6; what++) {
            Check.due(35, "the greatest of those by which both gain, " + what, y.deal(what), small[what]);
        }
    }

    private static void dealsOfLikeSums() {
        CardHall x = Check.hall(10, 10, 10);
        for (int m = 0; m < 3; m++) {
            Check.motion(x, 0, "say " + (m + 1) + ";");
            for (int a = 0; a < 3; a++) {
                x.casts(a, m, 0);
                x.worth(a, m, 2);
            }
        }
        Check.due(35, "one turned voice is not enough", x.deal(0), -1);
        for (int m = 0; m < 3; m++) {
            x.casts(2, m, 1);
        }
        // Now each voice of 0 or 1 decides: all deals of these are worth 4 and 4.
        int[] want = {0, 1, 0, 1, 4, 4};
        for (int what = 0; what < 6; what++) {
            Check.due(35, "like deals, " + what, x.deal(what), want[what]);
        }
        x.worth(1, 2, 3);
        int[] more = {0, 1, 0, 2, 4, 5};
        for (int what = 0; what < 6; what++) {
            Check.due(35, "a greater one, " + what, x.deal(what), more[what]);
        }
    }

    private static void dealsNeedVoices() {
        CardHall x = Check.hall(10, 10);
        Check.orders(x, "pass motion if yes > 5 and against = 0;");
        Check.motion(x, 0, "say 1;");
        Check.motion(x, 0, "say 2;");
        x.worth(0, 0, 5);
        x.worth(1, 1, 5);
        Check.due(35, "no voice", x.deal(0), -1);
        x.casts(1, 0, 0);
        Check.due(35, "a voice of one alone", x.deal(0), -1);
        x.mandate(0, 1, 0);
        Check.due(35, "a mandate is a voice", x.deal(0), 0);
        Check.due(35, "m", x.deal(2), 1);
        Check.due(35, "n", x.deal(3), 0);
        x.casts(0, 1, 2);
        Check.due(35, "nothing cast", x.deal(0), -1);
    }

    private static void eachAffiliateAsOne() {
        CardHall x = Check.hall(100, 30, 20);
        Check.orders(x, "pass motion if all = 3 and yes = 1 and no = 2 and sections = 1;");
        Check.motion(x, 0, "say 1;");
        x.casts(0, 0, 1);
        x.casts(1, 0, 0);
        x.casts(2, 0, 0);
        all(x, 0, 0, 0, 1, 0);
        CardHall y = new CardHall();
        y.affiliate(2);
        y.affiliate(2);
        y.branch(0, 1);
        y.branch(0, 1);
        y.branch(0, 900);
        y.branch(1, 1);
        Check.orders(y, "pass motion if all = 4 and yes = 3 and no = 1 and sections = 1;");
        Check.motion(y, 0, "say 1;");
        y.mandate(0, 0, 1);
        y.mandate(1, 0, 1);
        y.mandate(2, 0, 0);
        y.mandate(3, 0, 1);
        // The MANDATE of the first AFFILIATE is no; yet of its SECTION's BRANCHES three are for yes.
        all(y, 0, 0, 0, 0, 1);
    }

    private static void contraryStandsInOrder() {
        CardHall x = Check.hall(10, 3);
        Check.orders(x, "pass motion if yes > no and against = 0;");
        Check.motion(x, 0, "say not 1;");
        x.casts(0, 0, 1);
        x.decide(0);
        Check.motion(x, 0, "say 2;");
        Check.motion(x, 0, "say 3;");
        Check.motion(x, 0, "say 1;");
        for (int m = 1; m < 4; m++) {
            x.casts(0, m, 1);
            x.worth(0, m, m);
        }
        Check.due(33, "2 and 3, for 1 is against", x.inOrder(0b1110, 123, 0), 3);
        Check.due(33, "2 and 3, for 1 is against", x.inOrder(0b1110, 312, 0), 3);
    }

    private static void isDeal(CardHall x, String what, int... want) {
        for (int i = 0; i < 6; i++) {
            Check.due(35, what + ", deal(" + i + ")", x.deal(i), want[i]);
        }
    }

    private static void dealsOnOneAlone() {
        CardHall x = Check.hall(10, 10);
        Check.motion(x, 0, "say 1;");
        Check.motion(x, 0, "say 2;");
        x.casts(0, 0, 1);
        x.casts(1, 1, 0);
        x.casts(0, 1, 0);
        x.worth(0, 0, -3);
        x.worth(1, 0, -1);
        isDeal(x, "m alone is lost then", 0, 1, 0, 1, 3, 1);
        x.worth(0, 0, -1);
        isDeal(x, "1 for each", 0, 1, 0, 1, 1, 1);
        Check.motion(x, 0, "say 3;");
        x.casts(0, 2, 1);
        x.worth(0, 0, -9);
        x.worth(0, 2, -3);
        x.worth(1, 2, -3);
        isDeal(x, "9 and 1 are more than 3 and 3", 0, 1, 0, 1, 9, 1);
        CardHall y = Check.hall(10, 10);
        Check.motion(y, 0, "say 1;");
        Check.motion(y, 0, "say 2;");
        y.casts(1, 1, 1);
        y.casts(0, 0, 0);
        y.casts(1, 0, 0);
        y.worth(0, 1, -2);
        y.worth(1, 1, -4);
        isDeal(y, "n alone is lost then", 0, 1, 0, 1, 2, 4);
        y.decide(0);
        Check.due(35, "no m is open", y.deal(0), -1);
    }

    private static void dealsOfLaterOnes() {
        CardHall x = Check.hall(5, 10, 10);
        Check.motion(x, 0, "say 1;");
        Check.motion(x, 0, "say 2;");
        x.casts(1, 0, 1);
        x.casts(2, 1, 1);
        x.worth(1, 0, -1);
        x.worth(1, 1, -1);
        x.worth(2, 0, -1);
        isDeal(x, "of 1 and 2", 1, 2, 0, 1, 2, 1);
    }
}
