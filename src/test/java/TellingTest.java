/** Promises 1 to 9 and 36: what is told. */
public final class TellingTest {
    public static void main(String[] args) {
        aNewObject();
        affiliates();
        branches();
        headsAndDues();
        mandates();
        casts();
        bind();
        days();
        closing();
        tellingsAreSixHundred();
        counts();
        Check.finish("TellingTest");
    }

    private static void aNewObject() {
        CardHall x = new CardHall();
        for (int what = 0; what <= 11; what++) {
            Check.due(1, "count(" + what + ")", x.count(what), what == 7 ? -1 : 0);
        }
        Check.due(1, "place()", x.place(), -1);
        for (int n = 1; n <= 60; n++) {
            Check.due(1, "stands(" + n + ")", x.stands(n), 0);
        }
        Check.due(1, "how(0)", x.how(0), -1);
        Check.due(1, "row(0, 0)", Check.row(x, 0, 0), -99);
    }

    private static void affiliates() {
        CardHall x = new CardHall();
        Check.due(2, "affiliate(-1)", x.affiliate(-1), -1);
        Check.due(2, "affiliate(6)", x.affiliate(6), -1);
        for (int i = 0; i < 12; i++) {
            Check.due(2, "affiliate", x.affiliate(5 - i % 6), i);
        }
        Check.due(2, "a 13th affiliate", x.affiliate(0), -1);
        Check.due(2, "affiliates", x.count(1), 12);
    }

    private static void branches() {
        CardHall x = new CardHall();
        Check.due(3, "branch of none", x.branch(0, 1), -1);
        x.affiliate(3);
        Check.due(3, "branch(-1, 1)", x.branch(-1, 1), -1);
        Check.due(3, "no souls", x.branch(0, 0), -1);
        Check.due(3, "1000 souls", x.branch(0, 1000), -1);
        Check.due(3, "999 souls", x.branch(0, 999), 0);
        for (int i = 1; i < 48; i++) {
            Check.due(3, "branch", x.branch(0, 1), i);
        }
        Check.due(3, "a 49th branch", x.branch(0, 1), -1);
        Check.due(3, "branches", x.count(2), 48);
    }

    private static void headsAndDues() {
        CardHall x = new CardHall();
        Check.due(4, "heads of none", x.heads(0, 1), false);
        Check.due(5, "dues of none", x.dues(0, 1), false);
        x.affiliate(0);
        Check.due(4, "heads(0, -1)", x.heads(0, -1), false);
        Check.due(4, "heads(0, 10000)", x.heads(0, 10000), false);
        Check.due(5, "dues(0, -1)", x.dues(0, -1), false);
        Check.due(5, "dues(0, 100000)", x.dues(0, 100000), false);
        Check.due(4, "heads(-1, 1)", x.heads(-1, 1), false);
        Check.due(5, "dues(1, 1)", x.dues(1, 1), false);
        Check.due(36, "tellings", x.count(3), 0);
        Check.due(4, "heads(0, 9999)", x.heads(0, 9999), true);
        Check.due(5, "dues(0, 99999)", x.dues(0, 99999), true);
        Check.due(4, "paid", x.paid(0, 0), 9999);
        Check.due(4, "heads(0, 0)", x.heads(0, 0), true);
        Check.due(4, "paid", x.paid(0, 0), 0);
        x.heads(0, 50);
        Check.due(5, "dues(0, 0)", x.dues(0, 0), true);
        Check.due(5, "paid", x.paid(0, 0), 0);
        Check.due(36, "tellings", x.count(3), 5);
    }

    private static void mandates() {
        CardHall x = Check.hall(5);
        Check.due(6, "mandate on no matter", x.mandate(0, 0, 1), false);
        Check.due(6, "mandate on no matter", x.mandate(0, 100, 1), false);
        Check.due(6, "mandate on no matter", x.mandate(0, 200, 1), false);
        Check.motion(x, 0, "say 1;");
        Check.due(6, "mandate(-1, 0, 1)", x.mandate(-1, 0, 1), false);
        Check.due(6, "mandate(1, 0, 1)", x.mandate(1, 0, 1), false);
        Check.due(6, "mandate(0, 0, 3)", x.mandate(0, 0, 3), false);
        Check.due(6, "mandate(0, 0, -1)", x.mandate(0, 0, -1), false);
        Check.due(6, "mandate(0, 0, 0)", x.mandate(0, 0, 0), true);
        Check.due(6, "voice", x.voice(0, 0, 0, 0), 0);
        Check.due(6, "mandate(0, 0, 1)", x.mandate(0, 0, 1), true);
        Check.due(6, "voice", x.voice(0, 0, 0, 0), 1);
        Check.due(6, "mandate(0, 0, 2)", x.mandate(0, 0, 2), true);
        Check.due(6, "voice", x.voice(0, 0, 0, 0), 2);
        x.decide(0);
        Check.due(6, "mandate on what is lost", x.mandate(0, 0, 1), true);
        Check.amend(x, Check.motion(x, 0, "say 1;"), "add 2;");
        Check.orders(x, "");
        Check.due(6, "mandate on an amendment", x.mandate(0, 100, 1), true);
        Check.due(6, "mandate on orders", x.mandate(0, 200, 1), true);
        Check.due(6, "voice on orders", x.voice(0, 200, 0, 1), 1);
    }

    private static void casts() {
        CardHall x = Check.hall(5, 5);
        Check.due(7, "casts on no matter", x.casts(0, 0, 1), false);
        Check.motion(x, 0, "say 1;");
        Check.due(7, "casts(2, 0, 1)", x.casts(2, 0, 1), false);
        Check.due(7, "casts(-1, 0, 1)", x.casts(-1, 0, 1), false);
        Check.due(7, "casts(0, 0, 4)", x.casts(0, 0, 4), false);
        Check.due(7, "casts(0, 0, -1)", x.casts(0, 0, -1), false);
        x.mandate(0, 0, 1);
        Check.due(7, "casts no", x.casts(0, 0, 0), true);
        Check.due(7, "voice", x.voice(0, 0, 0, 0), 0);
        Check.due(7, "casts nothing", x.casts(0, 0, 2), true);
        Check.due(7, "voice", x.voice(0, 0, 0, 0), 2);
        Check.due(7, "taken back", x.casts(0, 0, 3), true);
        Check.due(7, "voice", x.voice(0, 0, 0, 0), 1);
        x.decide(0);
        Check.due(7, "casts on what is passed", x.casts(0, 0, 3), false);
        Check.orders(x, "");
        Check.due(7, "casts on orders in force", x.casts(0, 200, 1), false);
        Check.orders(x, "");
        Check.due(7, "casts on open orders", x.casts(0, 201, 1), true);
    }

    private static void bind() {
        CardHall x = Check.hall(5, 5);
        Check.motion(x, 0, "say 1;");
        x.mandate(0, 0, 1);
        Check.due(7, "unbound", x.casts(0, 0, 0), true);
        Check.orders(x, "bind;");
        Check.due(7, "bound to yes, no", x.casts(0, 0, 0), false);
        Check.due(7, "bound to yes, nothing", x.casts(0, 0, 2), false);
        Check.due(7, "bound to yes, yes", x.casts(0, 0, 1), true);
        Check.due(7, "bound to yes, taken back", x.casts(0, 0, 3), true);
        Check.due(7, "no mandate, no", x.casts(1, 0, 0), true);
        Check.due(7, "no mandate, nothing", x.casts(1, 0, 2), true);
        x.day(1);
        x.mandate(0, 0, 0);
        Check.due(7, "bound to no now", x.casts(0, 0, 0), true);
        Check.due(7, "bound to no now, yes", x.casts(0, 0, 1), false);
        x.branch(0, 10);
        x.mandate(2, 0, 1);
        Check.due(7, "even branches bind to nothing", x.casts(0, 0, 1), true);
    }

    private static void days() {
        CardHall x = new CardHall();
        Check.due(8, "day(-1)", x.day(-1), -1);
        Check.due(8, "day(1001)", x.day(1001), -1);
        Check.due(8, "day(0)", x.day(0), 0);
        for (int i = 1; i <= 99; i++) {
            Check.due(8, "day(1000)", x.day(1000), i * 1000);
        }
        Check.due(8, "day(999)", x.day(999), 99999);
        Check.due(8, "day(2)", x.day(2), -1);
        Check.due(8, "day(1)", x.day(1), 100000);
        Check.due(8, "day(1)", x.day(1), -1);
        Check.due(8, "count(0)", x.count(0), 100000);
    }

    private static void closing() {
        CardHall x = Check.hall(5);
        Check.due(9, "closing(-2)", x.closing(-2), false);
        Check.due(9, "closing(100001)", x.closing(100001), false);
        Check.due(9, "closing(100000)", x.closing(100000), true);
        Check.due(9, "closing(0)", x.closing(0), true);
        Check.due(9, "on the closing", Check.motion(x, 0, "say 1;"), 0);
        x.day(1);
        Check.due(9, "behind the closing", Check.motion(x, 0, "say 1;"), -6);
        x.closing(-7);
        Check.due(9, "behind the closing still", Check.motion(x, 0, "say 1;"), -6);
        Check.due(9, "closing(NONE)", x.closing(-1), true);
        Check.due(9, "without a closing", Check.motion(x, 0, "say 1;"), 1);
    }

    private static void tellingsAreSixHundred() {
        CardHall x = Check.hall(5);
        Check.motion(x, 0, "say 1;");
        for (int i = 2; i < 599; i++) {
            x.heads(0, i);
        }
        Check.due(36, "tellings", x.count(3), 599);
        Check.due(6, "the 600th", x.mandate(0, 0, 1), true);
        Check.due(4, "a 601st heads", x.heads(0, 1), false);
        Check.due(5, "a 601st dues", x.dues(0, 1), false);
        Check.due(6, "a 601st mandate", x.mandate(0, 0, 1), false);
        Check.due(7, "a 601st casts", x.casts(0, 0, 1), false);
        Check.due(36, "tellings", x.count(3), 600);
    }

    private static void counts() {
        CardHall x = Check.hall(5, 6, 7);
        Check.orders(x, "rate 10;");
        Check.motion(x, 0, "say 1; say not 2;");
        Check.motion(x, 1, "say 3;");
        Check.amend(x, 0, "add 4;");
        Check.orders(x, "bind;");
        x.casts(0, 0, 1);
        x.decide(0);
        x.casts(1, 201, 1);
        x.decide(201);
        x.day(7);
        x.feed(0, 0, 0, 0, 0);
        int[] want = {7, 3, 3, 8, 2, 1, 2, 1, 2, 20, 1, 2};
        for (int what = 0; what < want.length; what++) {
            Check.due(36, "count(" + what + ")", x.count(what), want[what]);
        }
        Check.due(36, "count(-1)", x.count(-1), -1);
        Check.due(36, "count(12)", x.count(12), -1);
    }
}
