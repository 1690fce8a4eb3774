/** Promises 10 to 15: the TAPE and what is read from it. */
public final class TextsTest {
    public static void main(String[] args) {
        feeding();
        ordersFaults();
        ordersLimits();
        sums();
        conditions();
        lateMotions();
        motions();
        amendments();
        faultsChangeNothing();
        aFaultInTheFirstOrders();
        Check.finish("TextsTest");
    }

    private static void feeding() {
        CardHall x = new CardHall();
        for (int i = 1; i <= 15; i++) {
            Check.due(10, "feed", x.feed(1, 2, 3, 4, 5), 20 * i);
        }
        Check.due(10, "feed above 300", x.feed(1, 2, 3, 4, 5), -1);
        Check.due(11, "end(301)", x.end(301), -1);
        Check.due(11, "end(-1)", x.end(-1), -1);
        Check.due(11, "end(300), all of it", x.end(300), 300);
        Check.due(11, "end(281)", x.end(281), 281);
        Check.due(10, "feed above 300", x.feed(1, 2, 3, 4, 5), -1);
        Check.due(11, "end(280)", x.end(280), 280);
        Check.due(10, "feed to 300", x.feed(1, 2, 3, 4, 5), 300);
        Check.due(11, "end(0)", x.end(0), 0);
        Check.due(11, "end(1)", x.end(1), -1);
        x.affiliate(0);
        // Of each number the highest byte first: "say 1;" in the first six bytes.
        x.feed(0x73617920, 0x313BFFFF, 0x80000000, 0, 0);
        Check.due(10, "a byte of 255", x.motion(0), -2);
        Check.due(15, "its place", x.place(), 6);
        x.feed(0x73617920, 0x313BFFFF, 0, 0, 0);
        x.end(6);
        Check.due(10, "say 1;", x.motion(0), 0);
        Check.due(10, "the tape is empty", x.count(9), 0);
    }

    private static void fault(String text, int kind, int place) {
        CardHall x = new CardHall();
        Check.due(12, "orders of " + text, Check.orders(x, text), -1 - kind);
        Check.due(15, "place in " + text, x.place(), place);
        Check.due(12, "the tape behind " + text, x.count(9), 0);
        Check.due(12, "orders behind " + text, x.count(6), 0);
    }

    private static void whole(String text) {
        CardHall x = new CardHall();
        Check.due(12, "orders of " + text, Check.orders(x, text), 0);
        Check.due(15, "place in " + text, x.place(), -1);
        Check.due(12, "in force", x.count(7), 0);
    }

    private static void ordersFaults() {
        whole("");
        whole(" \n ");
        whole("bind;bind ;\nrate 999;length 12;");
        whole("pass order if[yes=no]and(1)<2or not not day>0;");
        whole("rate10;length0012;cards 9999*heads/souls-section+branches;");
        whole("late if not [heads < 5 or lines = 2] and day > 3;");
        whole("pass amend if ((((1))))=1;");
        whole("pass motion if [[([(1]=1)]]>1;".replace("[[([(1]=1)]]>1", "[[[(1)<2]]]"));
        fault("rate", 1, 4);
        fault("rate \n ", 1, 7);
        fault("rate 0;", 2, 5);
        fault("rate 1000;", 2, 5);
        fault("rate 10000;", 1, 5);
        fault("rate 00001;", 1, 5);
        fault("rate x;", 1, 5);
        fault("length 0;", 2, 7);
        fault("length 13;", 2, 7);
        fault("bind bind;", 1, 5);
        fault(";", 1, 0);
        fault("bind;;", 1, 5);
        fault("Bind;", 1, 0);
        fault("bind\t;", 1, 4);
        fault("binds;", 1, 0);
        fault("hall;", 1, 0);
        fault("pass;", 1, 4);
        fault("pass late if 1=1;", 1, 5);
        fault("pass motion 1=1;", 1, 12);
        fault("pass motion if;", 1, 14);
        fault("pass motion if yes;", 1, 18);
        fault("pass motion if yes>no yes;", 1, 22);
        fault("pass motion if heads>1;", 3, 15);
        fault("pass motion if 1>and;", 3, 17);
        fault("pass motion if 1>not 2;", 3, 17);
        fault("pass motion if and;", 3, 15);
        fault("pass motion if 1>2 and or;", 3, 23);
        fault("pass motion if [1>2);", 1, 19);
        fault("pass motion if (1>2);", 1, 17);
        fault("pass motion if ([1>2]);", 1, 16);
        fault("pass motion if 1>2];", 1, 18);
        fault("pass motion if 1=<2;", 1, 17);
        fault("pass motion if 1<2<3;", 1, 18);
        fault("pass motion if [1<2]=1;", 1, 20);
        fault("cards;", 1, 5);
        fault("cards yes;", 3, 6);
        fault("cards head;", 3, 6);
        fault("cards lines;", 3, 6);
        fault("cards heads+;", 1, 12);
        fault("cards zoo;", 3, 6);
        fault("pass motion if yesz>1;", 3, 15);
        fault("pass motion if yes2>1;", 1, 18);
        fault("cards +1;", 1, 6);
        fault("cards (1;", 1, 8);
        fault("cards 1);", 1, 7);
        fault("cards 1 2;", 1, 8);
        fault("late 1=1;", 1, 5);
        fault("late if souls=1;", 3, 8);
        fault("late if yes=1;", 3, 8);
        fault("late if day=12345;", 1, 12);
        fault("rate 5; rate 0; foo;", 2, 13);
    }

    private static String times(int n, String s) {
        return new String(new char[n]).replace("\0", s);
    }

    private static void ordersLimits() {
        whole(times(15, "bind;"));
        fault(times(16, "bind;"), 4, 75);
        fault(times(15, "bind;") + " pass", 4, 76);
        fault(times(15, "bind;") + "foo;", 1, 75);
        fault(times(15, "bind;") + ";", 1, 75);
        fault("cards (((((1", 4, 10);
        fault("cards ((((1))))+(((((1", 4, 20);
        whole("cards ((((1))))+((((1))))*(((heads)));");
        fault("pass motion if [[[[[", 4, 19);
        fault("pass motion if [[(([", 1, 19);
        fault("pass motion if [[(((1", 4, 19);
        fault("pass motion if [[[[(1", 4, 19);
        fault("pass motion if 1<((((2)))) and [(1)<2] and [[[[(1", 4, 47);
        whole("pass motion if " + times(70, "not ") + "1=1;");
        fault("pass motion if " + times(71, "not ") + "1", 1, 300);
        CardHall x = new CardHall();
        for (int i = 0; i < 10; i++) {
            Check.due(12, "orders", Check.orders(x, "rate " + (i + 1) + ";"), i);
            Check.due(24, "how", x.how(200 + i), i == 0 ? 1 : 0);
        }
        Check.due(12, "an 11th", Check.orders(x, "rate 0;"), -1);
        Check.due(12, "the tape stays", x.count(9), 7);
        Check.due(15, "nothing was read", x.place(), -1);
        Check.due(12, "in force", x.count(7), 0);
    }

    /** CARDS of an AFFILIATE with 30 PAID HEADS (of 40), two BRANCHES, 25 SOULS, SECTION 4. */
    private static void sum(String text, int want) {
        CardHall x = new CardHall();
        x.affiliate(4);
        x.affiliate(1);
        x.branch(0, 10);
        x.branch(1, 7);
        x.branch(0, 15);
        x.heads(0, 40);
        x.dues(0, 300);
        Check.due(12, text, Check.orders(x, "cards " + text + ";"), 0);
        Check.due(17, "cards " + text, x.cards(0, 0), want);
    }

    private static void sums() {
        sum("heads", 30);
        sum("branches", 2);
        sum("souls", 25);
        sum("section", 4);
        sum("10-2-3", 5);
        sum("10-(2-3)", 11);
        sum("2+3*4", 14);
        sum("(2+3)*4", 20);
        sum("100/7/2", 7);
        sum("7/2*2", 6);
        sum("7/0+1", 1);
        sum("(0-7)/2+10", 7);
        sum("1-2", 0);
        sum("9999*9999*9999", 1000000000);
        sum("9999*9999*9999-1", 999999999);
        sum("(0-9999*9999*9999)*9-1+9999*9999*9999", 0);
        sum("0-9999*9999*9999-9+9999*9999*9999+7", 7);
        sum("9999*9999*9999+9999*9999*9999-9999*9999*9999", 0);
        sum("9999*9999*9999/9999", 100010);
        CardHall x = Check.hall(10);
        Check.orders(x, "cards 1; rate 5; cards 2; rate 20;");
        Check.due(12, "the last cards told", x.cards(0, 0), 2);
        Check.due(12, "the last rate told", x.paid(0, 0), 5);
    }

    /** Whether a condition holds with YES 10, NO 3, ALL 18, SECTIONS 1, AGAINST 0 on DAY 4. */
    private static void condition(String text, boolean want) {
        CardHall x = Check.hall(10, 3, 5);
        x.day(4);
        Check.due(12, text, Check.orders(x, "pass motion if " + text + ";"), 0);
        Check.motion(x, 0, "say 1;");
        x.casts(0, 0, 1);
        x.casts(1, 0, 0);
        Check.due(31, text, x.would(0, 0), want ? 1 : 0);
    }

    private static void conditions() {
        condition("1 = 1", true);
        condition("1 = 2", false);
        condition("1 < 2", true);
        condition("2 < 2", false);
        condition("2 > 2", false);
        condition("3 > 2", true);
        condition("yes = 10 and no = 3 and all = 18 and sections = 1 and against = 0 and day = 4", true);
        condition("not 1 = 1", false);
        condition("not not 1 = 1", true);
        condition("1 = 1 and not 1 = 2", true);
        condition("1 = 2 and not 1 = 2", false);
        condition("1 = 2 or not 1 = 2", true);
        condition("not 1 = 2 and 1 = 2", false);
        condition("not [1 = 2 and 1 = 2]", true);
        condition("1 = 1 or 1 = 1 and 1 = 2", true);
        condition("[1 = 1 or 1 = 1] and 1 = 2", false);
        condition("1 = 2 and 1 = 1 or 1 = 1", true);
        condition("1 = 2 and [1 = 1 or 1 = 1]", false);
        condition("[[[not [1 = 2]]]]", true);
        condition("yes + no * 2 = 16", true);
        condition("all - yes - no = 5", true);
        condition("all - (yes - no) = 11", true);
        condition("16 = yes + 2 * no", true);
        condition("(1 + 2) * (1 + 2) = 9 and 10 / (no + 1) = 2", true);
        condition("no - yes < 0", true);
        condition("(no - yes) / 2 = 0 - 3", true);
        condition("7 / (yes - 10) = 0", true);
    }

    private static void lateMotions() {
        CardHall x = Check.hall(10, 3);
        x.closing(0);
        x.day(5);
        x.dues(0, 10);
        Check.due(13, "late is never taken without late", Check.motion(x, 0, "say 1;"), -6);
        Check.due(15, "place of one not taken", x.place(), -1);
        Check.due(13, "the tape is empty", x.count(9), 0);
        Check.due(13, "a fault goes ahead", Check.motion(x, 0, "say 0;"), -3);
        Check.orders(x, "late if heads = 1 and lines < 3 and day = 5;");
        Check.due(13, "of 1 PAID HEAD out of 10", Check.motion(x, 0, "say 1;say 2;"), 0);
        Check.due(13, "too many lines", Check.motion(x, 0, "say 1;say 2;say 3;"), -6);
        Check.due(13, "of another mover", Check.motion(x, 1, "say 1;"), -6);
        x.day(1);
        Check.due(13, "on another day", Check.motion(x, 0, "say 1;"), -6);
        Check.due(13, "motions", x.count(4), 1);
        lateByPaidHeads();
    }

    private static void lateByPaidHeads() {
        CardHall x = new CardHall();
        x.affiliate(0);
        x.heads(0, 20);
        Check.orders(x, "rate 5; cards 99; late if heads > 3;");
        x.closing(0);
        x.day(1);
        Check.due(13, "no DUES are told", Check.motion(x, 0, "say 1;"), -6);
        x.dues(0, 19);
        Check.due(13, "DUES for 3", Check.motion(x, 0, "say 1;"), -6);
        x.dues(0, 20);
        Check.due(13, "DUES for 4 by the rate of the ORDERS", Check.motion(x, 0, "say 1;"), 0);
        x.dues(0, 99999);
        x.heads(0, 3);
        Check.due(13, "no more than HEADS", Check.motion(x, 0, "say 1;"), -6);
        x.heads(0, 4);
        Check.due(13, "as known on the DAY at hand", Check.motion(x, 0, "say 1;"), 1);
        x.day(1);
        Check.due(13, "as told last", Check.motion(x, 0, "say 1;"), 2);
        Check.orders(x, "rate 999; late if heads > 3 and heads < 99;");
        Check.due(13, "by the ORDERS IN FORCE alone", Check.motion(x, 0, "say 1;"), 3);
        Check.orders(x, "rate 999; late if heads = 2;");
        x.dues(0, 2997);
        Check.due(13, "by the rate of those ahead", Check.motion(x, 0, "say 1;"), 4);
        x.casts(0, 202, 1);
        x.decide(202);
        Check.due(36, "these are IN FORCE", x.count(7), 2);
        Check.due(13, "by the new rate 3", Check.motion(x, 0, "say 1;"), -6);
        x.dues(0, 2996);
        Check.due(13, "by the new rate 2", Check.motion(x, 0, "say 1;"), 5);
    }

    private static void badMotion(String text, int kind, int place) {
        CardHall x = Check.hall(1);
        Check.due(13, "motion of " + text, Check.motion(x, 0, text), -1 - kind);
        Check.due(15, "place in " + text, x.place(), place);
        Check.due(13, "motions behind " + text, x.count(4) + x.count(9), 0);
    }

    private static void motions() {
        badMotion("", 1, 0);
        badMotion("  ", 1, 2);
        badMotion("say", 1, 3);
        badMotion("say 1", 1, 5);
        badMotion("say 1 must", 1, 10);
        badMotion("say 0;", 2, 4);
        badMotion("say 61;", 2, 4);
        badMotion("say not 9999;", 2, 8);
        badMotion("say 00001;", 1, 4);
        badMotion("say must;", 1, 4);
        badMotion("say not not 1;", 1, 8);
        badMotion("say 1 not;", 1, 6);
        badMotion("say 1 must must;", 1, 11);
        badMotion("say 1;;", 1, 6);
        badMotion("say 1; add 2;", 1, 7);
        badMotion("say 7; say 8; say 7;", 2, 18);
        badMotion("say 7; say not 07 must;", 2, 15);
        badMotion("say 60; say 60;", 2, 12);
        badMotion("say 1; say 1;", 2, 11);
        StringBuilder twelve = new StringBuilder();
        for (int i = 1; i <= 12; i++) {
            twelve.append("say ").append(i).append(";");
        }
        badMotion(twelve + "say 13;", 4, twelve.length());
        badMotion(twelve + "say", 4, twelve.length());
        badMotion(twelve + "foo", 1, twelve.length());
        badMotion(twelve + "\n;", 1, twelve.length() + 1);
        CardHall x = Check.hall(1);
        Check.due(13, "no such mover", Check.motion(x, 1, "say 1;"), -1);
        Check.due(13, "no such mover", x.motion(-1), -1);
        Check.due(13, "the tape stays", x.count(9), 6);
        Check.due(13, "twelve lines", Check.motion(x, 0, twelve.toString()), 0);
        Check.lines(25, x, 0, "1 2 3 4 5 6 7 8 9 10 11 12");
        Check.due(13, "say not60must;", Check.motion(x, 0, "say not60must;say0001;"), 1);
        Check.lines(25, x, 1, "-60! 1");
        for (int i = 2; i < 24; i++) {
            Check.due(13, "motion", Check.motion(x, 0, "say 1;"), i);
        }
        Check.due(13, "a 25th", Check.motion(x, 0, "say 1;"), -1);
        Check.due(13, "the tape stays", x.count(9), 6);
    }

    private static void badAmendment(String text, int kind, int place) {
        CardHall x = Check.hall(1);
        Check.motion(x, 0, "say 1;");
        Check.due(14, "amend of " + text, Check.amend(x, 0, text), -1 - kind);
        Check.due(15, "place in " + text, x.place(), place);
        Check.due(14, "amendments behind " + text, x.count(5) + x.count(9), 0);
    }

    private static void amendments() {
        badAmendment("", 1, 0);
        badAmendment("say 1;", 1, 0);
        badAmendment("add", 1, 3);
        badAmendment("add 0;", 2, 4);
        badAmendment("turn 61;", 2, 5);
        badAmendment("strike 12345;", 1, 7);
        badAmendment("strike not 1;", 1, 7);
        badAmendment("turn not 1;", 1, 5);
        badAmendment("add not 1 must;", 1, 10);
        badAmendment("add 1;add 2;add 3;add 4;add 5;add 6;add 7;", 4, 36);
        badAmendment("add 1;add 2;add 3;add 4;add 5;add 6;say 7;", 1, 36);
        CardHall x = Check.hall(1);
        Check.due(14, "on no motion", Check.amend(x, 0, "add 1;"), -1);
        Check.due(14, "the tape stays", x.count(9), 6);
        Check.motion(x, 0, "say 1;");
        Check.motion(x, 0, "say 2;");
        Check.due(14, "on a negative one", x.amend(-1), -1);
        Check.due(14, "on an amendment", x.amend(100), -1);
        Check.due(14, "of an N that is there", Check.amend(x, 0, "add 1;add 1;turn 1;turn 1;"), 0);
        x.decide(1);
        Check.due(14, "on one that is lost", Check.amend(x, 1, "add 1;"), -1);
        for (int i = 1; i < 40; i++) {
            Check.due(14, "amend", Check.amend(x, 0, "add 3;add 4;add 5;add 6;add 7;add 8;"), i);
        }
        Check.due(14, "a 41st", Check.amend(x, 0, "add 3;"), -1);
        Check.due(14, "the tape stays", x.count(9), 6);
    }

    private static void faultsChangeNothing() {
        CardHall x = Check.hall(10);
        Check.orders(x, "rate 20;");
        Check.due(16, "paid", x.paid(0, 0), 5);
        Check.due(12, "a fault at the end", Check.orders(x, "rate 50; bind; rate 0;"), -3);
        Check.due(12, "paid as ever", x.paid(0, 0), 5);
        Check.due(12, "the next orders", Check.orders(x, "length 3;"), 1);
        x.casts(0, 201, 1);
        x.decide(201);
        Check.due(12, "nothing of the faulty text is left", x.paid(0, 0), 10);
        Check.due(12, "what is not told is as usual", x.count(7), 1);
    }

    private static void aFaultInTheFirstOrders() {
        CardHall x = Check.hall(30);
        Check.motion(x, 0, "say 1;say 2;say 3;");
        Check.motion(x, 0, "say 4;say 5;say 6;");
        Check.due(12, "a fault at the end", Check.orders(x, "rate 100; length 3; bind; cards 7; late if 1 = 1; bin"), -2);
        Check.due(15, "its place", x.place(), 50);
        Check.due(16, "no rate is told", x.paid(0, 0), 30);
        Check.due(17, "no cards are told", x.cards(0, 0), 30);
        Check.due(27, "no length is told", x.lost(3), 0);
        x.mandate(0, 0, 1);
        Check.due(7, "bind is not told", x.casts(0, 0, 0), true);
        x.closing(0);
        x.day(1);
        Check.due(13, "late is not told", Check.motion(x, 0, "say 9;"), -6);
    }
}
