/** Promises 16 to 20: what is known of AFFILIATES and MATTERS on a DAY. */
public final class CountingTest {
    public static void main(String[] args) {
        paid();
        cards();
        voices();
        counted();
        greatSums();
        broken();
        untold();
        rateOfOne();
        sectionsAreCountedAnew();
        mandateByOneSoul();
        Check.finish("CountingTest");
    }

    private static void paid() {
        CardHall x = new CardHall();
        x.affiliate(0);
        Check.due(16, "nothing told", x.paid(0, 0), 0);
        x.heads(0, 30);
        x.dues(0, 299);
        x.day(2);
        x.dues(0, 305);
        x.day(2);
        x.heads(0, 20);
        x.heads(0, 25);
        Check.due(16, "on day 0", x.paid(0, 0), 29);
        Check.due(16, "on day 1", x.paid(0, 1), 29);
        Check.due(16, "on day 2", x.paid(0, 2), 30);
        Check.due(16, "on day 4, the last told", x.paid(0, 4), 25);
        Check.due(16, "on a day to come", x.paid(0, 5), -1);
        Check.due(16, "on day -1", x.paid(0, -1), -1);
        Check.due(16, "no affiliate", x.paid(1, 0), -1);
        Check.due(16, "no affiliate", x.paid(-1, 0), -1);
        Check.orders(x, "rate 100;");
        Check.due(16, "by the rate as it is now", x.paid(0, 0), 2);
        Check.due(16, "by the rate as it is now", x.paid(0, 2), 3);
    }

    private static void cards() {
        CardHall x = Check.hall(30, 7);
        x.day(1);
        x.heads(0, 20);
        Check.due(17, "without a sum", x.cards(0, 0), 30);
        Check.due(17, "without a sum", x.cards(0, 1), 20);
        Check.due(17, "no day", x.cards(0, 2), -1);
        Check.due(17, "no affiliate", x.cards(2, 0), -1);
        Check.due(17, "no affiliate", x.cards(-1, 0), -1);
        Check.orders(x, "cards heads * branches + souls / 3 - section;");
        Check.due(17, "by the sum", x.cards(0, 0), 33);
        Check.due(17, "by the sum", x.cards(1, 1), 9);
        x.branch(0, 5);
        Check.due(17, "branches have no day", x.cards(0, 0), 65);
    }

    private static void voices() {
        CardHall x = new CardHall();
        x.affiliate(0);
        x.branch(0, 10);
        x.branch(0, 6);
        x.branch(0, 4);
        x.affiliate(1);
        x.branch(1, 50);
        Check.motion(x, 0, "say 1;");
        Check.due(18, "nothing told", x.voice(0, 0, 0, 0), 2);
        x.mandate(3, 0, 0);
        x.mandate(0, 0, 1);
        Check.due(18, "10 to 0", x.voice(0, 0, 0, 1), 1);
        x.day(1);
        x.mandate(1, 0, 0);
        Check.due(18, "10 to 6", x.voice(0, 0, 1, 1), 1);
        x.mandate(2, 0, 0);
        Check.due(18, "10 to 10", x.voice(0, 0, 1, 1), 2);
        Check.due(18, "10 to 10", x.voice(0, 0, 1, 0), 2);
        x.mandate(0, 0, 2);
        Check.due(18, "0 to 10", x.voice(0, 0, 1, 1), 0);
        Check.due(18, "on day 0", x.voice(0, 0, 0, 1), 1);
        x.casts(0, 0, 1);
        Check.due(18, "cast", x.voice(0, 0, 1, 0), 1);
        Check.due(18, "mandate", x.voice(0, 0, 1, 1), 0);
        x.day(1);
        x.casts(0, 0, 2);
        Check.due(18, "nothing cast", x.voice(0, 0, 2, 0), 2);
        Check.due(18, "cast on day 1", x.voice(0, 0, 1, 0), 1);
        x.casts(0, 0, 3);
        Check.due(18, "taken back", x.voice(0, 0, 2, 0), 0);
        Check.due(18, "of another", x.voice(1, 0, 2, 0), 0);
        Check.due(18, "what 2", x.voice(0, 0, 2, 2), -1);
        Check.due(18, "what -1", x.voice(0, 0, 2, -1), -1);
        Check.due(18, "no matter", x.voice(0, 1, 2, 0), -1);
        Check.due(18, "no matter", x.voice(0, -1, 2, 0), -1);
        Check.due(18, "no affiliate", x.voice(2, 0, 2, 0), -1);
        Check.due(18, "no day", x.voice(0, 0, 3, 0), -1);
        Check.due(18, "no day", x.voice(0, 0, -1, 0), -1);
        Check.motion(x, 0, "say 2;");
        Check.due(18, "of another matter", x.voice(0, 1, 2, 0), 2);
    }

    private static void all(CardHall x, int matter, int known, int yes, int no, int all, int sections) {
        Check.due(19, "yes of " + matter, x.counted(matter, known, 0), yes);
        Check.due(19, "no of " + matter, x.counted(matter, known, 1), no);
        Check.due(19, "all of " + matter, x.counted(matter, known, 2), all);
        Check.due(19, "sections of " + matter, x.counted(matter, known, 3), sections);
    }

    private static void counted() {
        CardHall x = Check.hall(10, 20, 30, 40, 50, 60, 25);
        Check.motion(x, 0, "say 1;");
        all(x, 0, 0, 0, 0, 235, 0);
        x.casts(0, 0, 1);
        x.casts(1, 0, 0);
        x.casts(2, 0, 1);
        x.casts(3, 0, 2);
        all(x, 0, 0, 40, 20, 235, 2);
        x.day(1);
        x.casts(6, 0, 0);
        all(x, 0, 1, 40, 45, 235, 1);
        all(x, 0, 0, 40, 20, 235, 2);
        x.casts(6, 0, 3);
        x.mandate(6, 0, 1);
        all(x, 0, 1, 65, 20, 235, 2);
        x.heads(6, 0);
        all(x, 0, 1, 40, 20, 210, 2);
        Check.due(19, "what -1", x.counted(0, 0, -1), -1);
        Check.due(19, "what 4", x.counted(0, 0, 4), -1);
        Check.due(19, "no day", x.counted(0, 2, 0), -1);
        Check.due(19, "no matter", x.counted(1, 0, 0), -1);
        Check.due(19, "no matter", x.counted(200, 0, 0), -1);
        x.decide(0);
        all(x, 0, 1, 40, 20, 210, 2);
    }

    private static void greatSums() {
        CardHall x = new CardHall();
        for (int i = 0; i < 5; i++) {
            x.affiliate(i < 4 ? 3 : 2);
        }
        Check.orders(x, "cards 9999*9999*5;");
        Check.motion(x, 0, "say 1;");
        x.casts(0, 0, 1);
        x.casts(1, 0, 1);
        x.casts(2, 0, 1);
        all(x, 0, 0, 1000000000, 0, 1000000000, 1);
        x.casts(3, 0, 0);
        all(x, 0, 0, 1000000000, 499900005, 1000000000, 1);
        x.casts(4, 0, 0);
        all(x, 0, 0, 1000000000, 999800010, 1000000000, 1);
        CardHall y = new CardHall();
        for (int i = 0; i < 7; i++) {
            y.affiliate(0);
        }
        Check.orders(y, "cards 9999*9999*5;");
        Check.motion(y, 0, "say 1;");
        for (int i = 0; i < 7; i++) {
            y.casts(i, 0, i < 4 ? 1 : 0);
        }
        // Both are cut to the same; the SECTION is of whole sums all the same.
        all(y, 0, 0, 1000000000, 1000000000, 1000000000, 1);
        Check.due(21, "cut sums are alike", y.decide(0), 0);
    }

    private static void broken() {
        CardHall x = Check.hall(1, 1, 1, 1);
        Check.motion(x, 0, "say 1;");
        Check.due(20, "nothing told", x.broken(0, 0), 0);
        x.mandate(0, 0, 1);
        x.mandate(1, 0, 0);
        x.mandate(2, 0, 1);
        Check.due(20, "nothing cast", x.broken(0, 0), 0);
        x.casts(0, 0, 0);
        x.casts(1, 0, 0);
        x.casts(3, 0, 1);
        Check.due(20, "one broken", x.broken(0, 0), 1);
        x.day(1);
        x.casts(2, 0, 2);
        Check.due(20, "nothing is another word", x.broken(0, 1), 2);
        Check.due(20, "on day 0", x.broken(0, 0), 1);
        x.casts(0, 0, 3);
        Check.due(20, "taken back", x.broken(0, 1), 1);
        x.mandate(2, 0, 2);
        Check.due(20, "no mandate", x.broken(0, 1), 0);
        Check.due(20, "no day", x.broken(0, 2), -1);
        Check.due(20, "no day", x.broken(0, -1), -1);
        Check.due(20, "no matter", x.broken(1, 0), -1);
        Check.due(20, "no matter", x.broken(100, 0), -1);
    }

    private static void untold() {
        CardHall x = new CardHall();
        x.affiliate(0);
        x.affiliate(1);
        x.heads(0, 30);
        x.dues(1, 300);
        Check.due(16, "without dues", x.paid(0, 0), 0);
        Check.due(16, "without heads", x.paid(1, 0), 0);
    }

    private static void rateOfOne() {
        CardHall x = Check.hall(30);
        x.dues(0, 29);
        Check.due(16, "rate 10 without ORDERS", x.paid(0, 0), 2);
        Check.orders(x, "bind;");
        Check.due(16, "rate 10 where it is not told", x.paid(0, 0), 2);
        CardHall y = Check.hall(30);
        y.dues(0, 29);
        Check.orders(y, "rate 1;");
        Check.due(16, "rate 1", y.paid(0, 0), 29);
    }

    private static void sectionsAreCountedAnew() {
        CardHall x = Check.hall(1, 1, 1, 1, 1, 1);
        Check.motion(x, 0, "say 1;");
        Check.motion(x, 0, "say 2;");
        for (int a = 0; a < 6; a++) {
            x.casts(a, 0, 1);
        }
        Check.due(19, "six sections", x.counted(0, 0, 3), 6);
        Check.due(19, "none of the other", x.counted(1, 0, 3), 0);
    }

    private static void mandateByOneSoul() {
        CardHall x = new CardHall();
        x.affiliate(0);
        x.branch(0, 5);
        x.branch(0, 4);
        Check.motion(x, 0, "say 1;");
        x.mandate(0, 0, 1);
        x.mandate(1, 0, 0);
        Check.due(18, "one soul more for yes", x.voice(0, 0, 0, 1), 1);
        x.mandate(0, 0, 0);
        x.mandate(1, 0, 1);
        Check.due(18, "one soul more for no", x.voice(0, 0, 0, 1), 0);
    }
}
