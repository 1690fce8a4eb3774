/** Promises 31 to 35 at their edges: OTHER RULES, WORTHS, MOTIONS IN AN ORDER, the best one, DEALS. */
public final class EdgesOfWouldTest {
    private static final int MIN = Integer.MIN_VALUE;
    private static final int MAX = Integer.MAX_VALUE;

    public static void main(String[] args) {
        howBounds();
        wouldOfOpenMattersAlone();
        equalIsNotMoreByAnyRule();
        nobodyByAnyRule();
        allByAnyRule();
        sectionsOfBranches();
        sumsAtTheBoundByCards();
        worthBounds();
        worthOfEachForEach();
        worthIsNoTelling();
        worthInAnyState();
        oneToSixInOrder();
        figuresOfAnOrder();
        affiliatesInOrder();
        greatestAndLeastWorth();
        noneOrAllPass();
        eachFallsAside();
        standsByThen();
        inOrderChangesNothing();
        bestPlaces();
        bestOfOne();
        bestOfLikeOnes();
        bestOfAllSixTheLastFirst();
        bestBelowZero();
        dealWhat();
        dealOfTheLastOnes();
        dealGainsAboveZero();
        dealGreatestGains();
        dealNeedsBothVoices();
        dealTurnsNoIntoYes();
        dealTurnsYesIntoNo();
        dealOnOneThatPassesThen();
        dealOnTwoOpenOnes();
        dealOfLikeOnes();
        dealOfLikeMotions();
        dealKeepsAgainst();
        dealAsKnownToday();
        Check.finish("EdgesOfWouldTest");
    }

    private static void none(int promise, String what, int... got) {
        for (int i = 0; i < got.length; i++) {
            Check.due(promise, what + " (" + i + ")", got[i], -1);
        }
    }

    private static void noWorth(int promise, String what, int... got) {
        for (int i = 0; i < got.length; i++) {
            Check.due(promise, what + " (" + i + ")", got[i], -1000);
        }
    }

    private static void byRules(CardHall x, int matter, int... want) {
        for (int how = 0; how < 4; how++) {
            Check.due(31, "would(" + matter + ", " + how + ")", x.would(matter, how), want[how]);
        }
    }

    private static void isDeal(CardHall x, String what, int... want) {
        for (int i = 0; i < 6; i++) {
            Check.due(35, what + ", deal(" + i + ")", x.deal(i), want[i]);
        }
    }

    private static void noDeal(CardHall x, String what) {
        for (int i = 0; i < 6; i++) {
            Check.due(35, what + ", deal(" + i + ")", x.deal(i), -1);
        }
    }

    /** MOTIONS that say 1, 2, ... (none contrary to another), each cast for by the first AFFILIATE. */
    private static CardHall passing(int motions, int... cards) {
        CardHall x = Check.hall(cards);
        for (int m = 0; m < motions; m++) {
            Check.motion(x, 0, "say " + (m + 1) + ";");
            x.casts(0, m, 1);
        }
        return x;
    }

    /** "By how (0 to 3): 1, 0. NONE: no such ones". */
    private static void howBounds() {
        CardHall x = passing(1, 5);
        x.mandate(0, 0, 1);
        byRules(x, 0, 1, 1, 1, 1);
        none(31, "no such how", x.would(0, -1), x.would(0, 4), x.would(0, MIN), x.would(0, MAX));
        for (int m : new int[] {-1, 1, 24, 99, 100, 199, 200, 210, MIN, MAX}) {
            none(31, "no such matter " + m, x.would(m, 0), x.would(m, 1), x.would(m, 2), x.would(m, 3));
        }
    }

    /** "NONE: ... it isn't OPEN." */
    private static void wouldOfOpenMattersAlone() {
        CardHall x = Check.hall(5);
        Check.orders(x, "");
        Check.orders(x, "");
        String[] texts = {"say 1;", "say not 1;", "say 2;", "say 3;", "say 4;", "say 5;"};
        for (String text : texts) {
            Check.motion(x, 0, text);
        }
        Check.amend(x, 5, "add 6;");
        Check.amend(x, 5, "add 7;");
        Check.amend(x, 1, "add 7;");
        x.casts(0, 0, 1);
        x.decide(0);
        x.decide(2);
        x.composite(0b11000);
        x.decide(100);
        int[] closed = {0, 1, 2, 3, 4, 100, 102, 200};
        for (int m : closed) {
            none(31, "not open, " + m, x.would(m, 0), x.would(m, 1), x.would(m, 2), x.would(m, 3));
        }
        for (int m : new int[] {5, 6, 101, 201}) {
            byRules(x, m, 0, 0, 0, 0);
        }
    }

    private static void equalIsNotMoreByAnyRule() {
        CardHall x = Check.hall(5, 5);
        Check.motion(x, 0, "say 1;");
        x.casts(0, 0, 1);
        x.casts(1, 0, 0);
        x.mandate(0, 0, 1);
        x.mandate(1, 0, 0);
        byRules(x, 0, 0, 0, 0, 0);
        x.branch(0, 1);
        x.mandate(2, 0, 1);
        byRules(x, 0, 0, 0, 0, 1);
        x.affiliate(0);
        x.casts(2, 0, 1);
        byRules(x, 0, 0, 0, 1, 1);
        x.heads(0, 6);
        x.dues(0, 60);
        byRules(x, 0, 1, 1, 1, 1);
        Check.orders(x, "cards heads / 5;");
        byRules(x, 0, 0, 1, 1, 1);
    }

    private static void nobodyByAnyRule() {
        CardHall x = new CardHall();
        Check.orders(x, "pass order if all = 0 and yes = 0 and no = 0 and sections = 0;");
        Check.orders(x, "");
        byRules(x, 201, 1, 1, 1, 1);
        x.affiliate(0);
        byRules(x, 201, 1, 1, 0, 1);
        x.branch(0, 5);
        byRules(x, 201, 1, 1, 0, 0);
    }

    private static void allByAnyRule() {
        CardHall x = EdgesOfTellingTest.fullHall();
        Check.due(36, "orders", x.count(6), 10);
        for (int a = 0; a < 12; a++) {
            x.casts(a, 0, 1);
        }
        for (int b = 0; b < 48; b++) {
            x.mandate(b, 0, 0);
        }
        byRules(x, 0, 1, 1, 1, 0);
        CardHall y = Check.hall(1, 1, 1, 1, 1, 1, 1, 1, 1, 1, 1, 1);
        for (int b = 12; b < 48; b++) {
            y.branch(b % 12, 1);
        }
        Check.orders(y, "cards 7; pass motion if all = 84 and yes = 84 or all = 12 and no = 0 or all = 48 and yes = 47 and no = 1;");
        Check.motion(y, 0, "say 1;");
        for (int a = 0; a < 12; a++) {
            y.casts(a, 0, 1);
        }
        for (int b = 0; b < 48; b++) {
            y.mandate(b, 0, b == 47 ? 0 : 1);
        }
        byRules(y, 0, 1, 1, 1, 1);
    }

    /** "3 each BRANCH as 1 by its own MANDATE (SECTIONS by its AFFILIATE's)". */
    private static void sectionsOfBranches() {
        for (int section = 0; section < 6; section++) {
            CardHall x = new CardHall();
            x.affiliate(section);
            x.affiliate(5 - section);
            x.branch(0, 1);
            x.branch(0, 1);
            x.branch(0, 999);
            x.branch(1, 999);
            Check.orders(x, "pass motion if sections = 1 and yes = 2 and no = 2 and all = 4;");
            Check.motion(x, 0, "say 1;");
            x.mandate(0, 0, 1);
            x.mandate(1, 0, 1);
            x.mandate(2, 0, 0);
            x.mandate(3, 0, 0);
            byRules(x, 0, 0, 0, 0, 1);
        }
    }

    private static void sumsAtTheBoundByCards() {
        CardHall x = new CardHall();
        x.affiliate(0);
        x.affiliate(1);
        x.affiliate(2);
        Check.orders(x, "cards 1000*1000*1000;");
        Check.motion(x, 0, "say 1;");
        x.casts(0, 0, 1);
        x.casts(1, 0, 1);
        x.casts(2, 0, 0);
        byRules(x, 0, 0, 0, 1, 0);
        x.casts(2, 0, 3);
        byRules(x, 0, 1, 0, 1, 0);
    }

    /** "WORTHS (-9 to 9; 0 at first)"; "False: no such ones, another number." */
    private static void worthBounds() {
        CardHall x = passing(2, 5, 4);
        Check.due(32, "0 at first", x.inOrder(3, 12, 0), 0);
        boolean[] no = {x.worth(0, 0, 10), x.worth(0, 0, -10), x.worth(0, 0, MIN), x.worth(0, 0, MAX), x.worth(-1, 0, 1),
            x.worth(2, 0, 1), x.worth(12, 0, 1), x.worth(MIN, 0, 1), x.worth(MAX, 0, 1), x.worth(0, -1, 1), x.worth(0, 2, 1),
            x.worth(0, 24, 1), x.worth(0, 100, 1), x.worth(0, 200, 1), x.worth(0, MIN, 1), x.worth(0, MAX, 1)};
        for (int i = 0; i < no.length; i++) {
            Check.due(32, "refused (" + i + ")", no[i], false);
        }
        Check.due(32, "0 still", x.inOrder(3, 12, 0), 0);
        for (int v = -9; v <= 9; v++) {
            Check.due(32, "worth " + v, x.worth(0, 0, v), true);
            Check.due(32, "it is " + v, x.inOrder(1, 1, 0), v);
            Check.due(32, "refused", x.worth(0, 0, v + 19), false);
            Check.due(32, "refused", x.worth(0, 0, v - 19), false);
            Check.due(32, "it is " + v + " still", x.inOrder(1, 1, 0), v);
        }
    }

    private static void worthOfEachForEach() {
        CardHall x = Check.hall(1, 1, 1, 1, 1, 1, 1, 1, 1, 1, 1, 1);
        for (int m = 0; m < 24; m++) {
            Check.motion(x, 0, "say " + (m + 1) + ";");
            x.casts(0, m, 1);
            for (int a = 0; a < 12; a++) {
                Check.due(32, "worth", x.worth(a, m, (a * 7 + m * 5) % 19 - 9), true);
            }
        }
        for (int m = 0; m < 24; m++) {
            for (int a = 0; a < 12; a++) {
                Check.due(32, "for " + a + " of " + m, x.inOrder(1 << m, 1, a), (a * 7 + m * 5) % 19 - 9);
            }
        }
        Check.due(32, "of a 25th", x.worth(0, 24, 1), false);
        Check.due(32, "for a 13th", x.worth(12, 0, 1), false);
    }

    private static void worthIsNoTelling() {
        CardHall x = passing(1, 5);
        int tellings = x.count(3);
        x.worth(0, 0, 5);
        x.day(3);
        x.worth(0, 0, 6);
        Check.due(36, "tellings", x.count(3), tellings);
        Check.due(32, "the last told", x.inOrder(1, 1, 0), 6);
    }

    private static void worthInAnyState() {
        CardHall x = Check.hall(5);
        String[] texts = {"say 1;", "say not 1;", "say 2;", "say 3;", "say 4;"};
        for (String text : texts) {
            Check.motion(x, 0, text);
        }
        x.casts(0, 0, 1);
        x.decide(0);
        x.decide(2);
        x.composite(0b11000);
        for (int m = 0; m < 6; m++) {
            Check.due(32, "worth of " + m, x.worth(0, m, 9), true);
        }
        Check.due(32, "no such motion", x.worth(0, 6, 9), false);
        Check.due(22, "no decision to be made anew", x.voids(0), -1);
        x.casts(0, 5, 1);
        Check.due(33, "worth of a composite", x.inOrder(1 << 5, 1, 0), 9);
    }

    /** "IN AN ORDER some OPEN MOTIONS (1 to 6)". */
    private static void oneToSixInOrder() {
        CardHall x = passing(8, 5);
        int[] orders = {0, 1, 12, 123, 1234, 12345, 123456, 1234567, 12345678};
        for (int m = 0; m < 8; m++) {
            x.worth(0, m, m + 1);
        }
        for (int many = 0; many <= 8; many++) {
            int bits = (1 << many) - 1;
            boolean can = many >= 1 && many <= 6;
            Check.due(33, "of " + many, x.inOrder(bits, orders[many], 0), can ? many * (many + 1) / 2 : -1000);
            Check.due(34, "of " + many, x.best(bits, 0, -1), can ? many * (many + 1) / 2 : -1000);
            Check.due(34, "the last of " + many, x.best(bits, 0, many - 1), can ? many - 1 : -1000);
            noWorth(34, "behind the last of " + many, x.best(bits, 0, many));
        }
        for (int bits : new int[] {1 << 8, 1 << 8 | 1, 1 << 24, 1 << 24 | 1, MIN, MIN | 1, -1, MAX}) {
            noWorth(33, "bits " + bits, x.inOrder(bits, 1, 0), x.inOrder(bits, 12, 0), x.best(bits, 0, -1), x.best(bits, 0, 0));
        }
    }

    /** "Told by figures (the first one highest, each one's place among the bits from 1 on, each once)". */
    private static void figuresOfAnOrder() {
        CardHall x = passing(6, 5);
        for (int order : new int[] {123456, 654321, 214365, 162534}) {
            Check.due(33, "order " + order, x.inOrder(63, order, 0), 0);
        }
        for (int order : new int[] {0, 1, 12345, 23456, 1234567, 1123456, 123450, 123457, 123455, 113456, 111111, 999999, 23456 * 10,
            1023456, -123456, -1, MIN, MAX, 1234561, 3123456}) {
            noWorth(33, "order " + order, x.inOrder(63, order, 0));
        }
        for (int order : new int[] {0, 2, 9, 10, 11, 12, 21, -1, 1000000001, MIN, MAX}) {
            noWorth(33, "order " + order + " of one", x.inOrder(4, order, 0));
        }
        Check.due(33, "order 1 of one", x.inOrder(4, 1, 0), 0);
        for (int order : new int[] {1, 2, 11, 22, 13, 31, 121, 212, 120, 210, 102, 201}) {
            noWorth(33, "order " + order + " of two", x.inOrder(0b101000, order, 0));
        }
        Check.due(33, "order 12 of two", x.inOrder(0b101000, 12, 0), 0);
        Check.due(33, "order 21 of two", x.inOrder(0b101000, 21, 0), 0);
    }

    private static void affiliatesInOrder() {
        CardHall x = passing(1, 5, 4);
        x.worth(1, 0, -9);
        Check.due(33, "of the last", x.inOrder(1, 1, 1), -9);
        Check.due(34, "of the last", x.best(1, 1, -1), -9);
        for (int a : new int[] {-1, 2, 12, MIN, MAX}) {
            noWorth(33, "no affiliate " + a, x.inOrder(1, 1, a), x.best(1, a, -1), x.best(1, a, 0));
        }
    }

    private static void greatestAndLeastWorth() {
        CardHall x = passing(6, 5, 4);
        for (int m = 0; m < 6; m++) {
            x.worth(0, m, 9);
            x.worth(1, m, -9);
        }
        Check.due(33, "six nines", x.inOrder(63, 314256, 0), 54);
        Check.due(33, "less six nines", x.inOrder(63, 314256, 1), -54);
        Check.due(34, "six nines", x.best(63, 0, -1), 54);
        Check.due(34, "less six nines", x.best(63, 1, -1), -54);
    }

    private static void noneOrAllPass() {
        CardHall x = Check.hall(5);
        for (int m = 0; m < 3; m++) {
            Check.motion(x, 0, "say " + (m + 1) + ";");
            x.worth(0, m, 9);
        }
        Check.due(33, "none passes", x.inOrder(7, 123, 0), 0);
        Check.due(34, "none passes", x.best(7, 0, -1), 0);
        Check.due(34, "the first order", x.best(7, 0, 0) * 100 + x.best(7, 0, 1) * 10 + x.best(7, 0, 2), 12);
        x.casts(0, 1, 1);
        Check.due(33, "one passes", x.inOrder(7, 123, 0), 9);
    }

    /** "Those that are FALLEN by then aside". */
    private static void eachFallsAside() {
        CardHall x = Check.hall(5);
        String[] texts = {"say 1;", "say not 1; say 2;", "say not 2; say 3;", "say not 3; say 4;", "say not 4; say 60;", "say not 60;"};
        for (int m = 0; m < 6; m++) {
            Check.motion(x, 0, texts[m]);
            x.casts(0, m, 1);
            x.worth(0, m, 1 + m);
        }
        Check.due(33, "0, 2, 4 pass", x.inOrder(63, 123456, 0), 1 + 3 + 5);
        Check.due(33, "5, 3, 1 pass", x.inOrder(63, 654321, 0), 6 + 4 + 2);
        Check.due(33, "1, 3, 5 pass", x.inOrder(63, 213456, 0), 2 + 4 + 6);
        Check.due(33, "0, 5, 3 pass, for 4, 2 fall, 1 fell", x.inOrder(63, 162345, 0), 1 + 6 + 3);
        Check.due(34, "best", x.best(63, 0, -1), 12);
        int[] want = {1, 0, 2, 3, 4, 5};
        for (int place = 0; place < 6; place++) {
            Check.due(34, "at " + place, x.best(63, 0, place), want[place]);
        }
    }

    /** "DECIDED one behind the other": what an earlier one turned is no more AGAINST a later one, on either side. */
    private static void standsByThen() {
        for (int side = 0; side < 2; side++) {
            String yes = side == 0 ? "say 1;" : "say not 1;";
            String no = side == 0 ? "say not 1;" : "say 1;";
            CardHall x = Check.hall(9, 4);
            Check.orders(x, "pass motion if yes > 5 or yes > no and against = 0;");
            Check.motion(x, 0, yes);
            x.casts(0, 0, 1);
            x.decide(0);
            Check.motion(x, 0, no + "say 2;");
            Check.motion(x, 0, no + "say 3;");
            Check.motion(x, 0, "say 4;");
            x.casts(0, 1, 1);
            x.casts(1, 2, 1);
            x.casts(1, 3, 1);
            for (int m = 1; m < 4; m++) {
                x.worth(0, m, m);
            }
            Check.due(33, "the weak one behind the strong one", x.inOrder(0b0110, 12, 0), 3);
            Check.due(33, "the weak one ahead of it", x.inOrder(0b0110, 21, 0), 1);
            Check.due(33, "with another", x.inOrder(0b1110, 321, 0), 4);
            Check.due(34, "best", x.best(0b1110, 0, -1), 6);
            Check.due(33, "what stands stands as before", x.inOrder(0b0100, 1, 0), 0);
            Check.due(26, "what stands stands as before", x.stands(1), side == 0 ? 1 : -1);
        }
    }

    /** "(No AMENDMENTS, nothing is changed by it)". */
    private static void inOrderChangesNothing() {
        CardHall x = Check.hall(5, 4);
        Check.motion(x, 0, "say 1;");
        Check.motion(x, 0, "say not 1;");
        Check.amend(x, 0, "turn 1;");
        x.casts(0, 0, 1);
        x.casts(0, 1, 1);
        x.casts(0, 100, 1);
        x.worth(0, 0, 3);
        for (int round = 0; round < 2; round++) {
            Check.due(33, "the first", x.inOrder(3, 12, 0), 3);
            Check.due(33, "the second", x.inOrder(3, 21, 0), 0);
            Check.due(34, "best", x.best(3, 0, -1), 3);
        }
        Check.due(24, "open", x.how(0) + x.how(1) + x.how(100), 0);
        Check.due(36, "stand, rows", x.count(11) + x.count(8), 0);
        Check.lines(33, x, 0, "1");
    }

    /** "What NONE its WORTH, else the MOTION at that place. NONE * 1000: no such ones." */
    private static void bestPlaces() {
        CardHall x = passing(24, 5);
        int bits = 1 << 3 | 1 << 9 | 1 << 22 | 1 << 23;
        int[] want = {3, 9, 22, 23};
        for (int place = 0; place < 4; place++) {
            Check.due(34, "at " + place, x.best(bits, 0, place), want[place]);
        }
        noWorth(34, "no place", x.best(bits, 0, 4), x.best(bits, 0, 5), x.best(bits, 0, 6), x.best(bits, 0, -2), x.best(bits, 0, MIN),
            x.best(bits, 0, MAX));
        Check.due(34, "its worth", x.best(bits, 0, -1), 0);
        Check.due(34, "the last of six", x.best(63, 0, 5), 5);
        noWorth(34, "a seventh", x.best(63, 0, 6));
    }

    private static void bestOfOne() {
        CardHall x = passing(2, 5);
        x.worth(0, 1, -9);
        Check.due(34, "its worth", x.best(2, 0, -1), -9);
        Check.due(34, "itself", x.best(2, 0, 0), 1);
        noWorth(34, "no second", x.best(2, 0, 1));
    }

    /** "Of several the order that comes first by numbers, MOTION by MOTION." */
    private static void bestOfLikeOnes() {
        CardHall x = Check.hall(5);
        String[] texts = {"say 1;", "say 2;", "say not 1; say not 2;", "say 3;"};
        for (int m = 0; m < 4; m++) {
            Check.motion(x, 0, texts[m]);
            x.casts(0, m, 1);
        }
        x.worth(0, 2, 5);
        x.worth(0, 3, 1);
        int[] want = {2, 0, 1, 3};
        for (int place = 0; place < 4; place++) {
            Check.due(34, "2 ahead of 0 and 1, at " + place, x.best(0b1111, 0, place), want[place]);
        }
        Check.due(34, "its worth", x.best(0b1111, 0, -1), 6);
        x.worth(0, 0, 3);
        x.worth(0, 1, 2);
        int[] like = {0, 1, 2, 3};
        for (int place = 0; place < 4; place++) {
            Check.due(34, "5 and 3 + 2 are alike, at " + place, x.best(0b1111, 0, place), like[place]);
        }
        x.worth(0, 1, 1);
        Check.due(34, "4 are less than 5", x.best(0b1111, 0, 0), 2);
    }

    private static void bestOfAllSixTheLastFirst() {
        CardHall x = Check.hall(5);
        for (int m = 0; m < 6; m++) {
            Check.motion(x, 0, m < 4 ? "say " + (m + 1) + ";" : m == 4 ? "say not 1; say not 2; say 5;" : "say not 3; say not 4;");
            x.casts(0, m, 1);
            x.worth(0, m, m < 4 ? -9 : 9);
        }
        Check.due(34, "both of the last", x.best(63, 0, -1), 18);
        int[] want = {4, 0, 1, 5, 2, 3};
        for (int place = 0; place < 6; place++) {
            Check.due(34, "at " + place, x.best(63, 0, place), want[place]);
        }
        Check.due(33, "the last order by numbers", x.inOrder(63, 654321, 0), 18);
        Check.due(33, "the first", x.inOrder(63, 123456, 0), -36);
        CardHall y = Check.hall(5);
        for (int m = 0; m < 6; m++) {
            Check.motion(y, 0, m == 5 ? "say not 1; say not 2; say not 3; say not 4; say not 5;" : "say " + (m + 1) + ";");
            y.casts(0, m, 1);
            y.worth(0, m, m == 5 ? 0 : -1);
        }
        Check.due(34, "the last alone", y.best(63, 0, -1), 0);
        Check.due(34, "it goes ahead", y.best(63, 0, 0), 5);
        Check.due(34, "the first behind it", y.best(63, 0, 1), 0);
    }

    private static void bestBelowZero() {
        CardHall x = Check.hall(5);
        String[] texts = {"say 1;", "say not 1;", "say 1;"};
        for (int m = 0; m < 3; m++) {
            Check.motion(x, 0, texts[m]);
            x.casts(0, m, 1);
            x.worth(0, m, -3 - m);
        }
        Check.due(34, "the lesser loss", x.best(7, 0, -1), -4);
        Check.due(34, "1 ahead", x.best(7, 0, 0), 1);
    }

    private static CardHall dealing() {
        CardHall x = Check.hall(10, 10);
        Check.motion(x, 0, "say 1;");
        Check.motion(x, 0, "say 2;");
        x.casts(0, 0, 1);
        x.casts(1, 1, 1);
        x.worth(0, 1, -8);
        x.worth(0, 0, 3);
        x.worth(1, 0, -7);
        x.worth(1, 1, 6);
        return x;
    }

    /** "What 0 a, 1 b, 2 m, 3 n, 4 GAIN of a, 5 of b. NONE: there is none (such)." */
    private static void dealWhat() {
        noDeal(new CardHall(), "nobody is there");
        noDeal(Check.hall(5, 5), "no motion is there");
        CardHall x = dealing();
        isDeal(x, "both lose what they are for", 0, 1, 0, 1, 5, 1);
        none(35, "no such what", x.deal(-1), x.deal(6), x.deal(MIN), x.deal(MAX));
        CardHall y = Check.hall(5);
        Check.motion(y, 0, "say 1;");
        Check.motion(y, 0, "say 2;");
        y.casts(0, 0, 1);
        y.casts(0, 1, 1);
        y.worth(0, 0, -9);
        y.worth(0, 1, -9);
        noDeal(y, "one alone");
    }

    /** a 10, b 11, m 23, n 22: the highest numbers of all. */
    private static void dealOfTheLastOnes() {
        CardHall x = Check.hall(1, 1, 1, 1, 1, 1, 1, 1, 1, 1, 10, 10);
        for (int m = 0; m < 24; m++) {
            Check.motion(x, 0, "say " + (m + 1) + ";");
        }
        noDeal(x, "no voices");
        x.casts(10, 23, 1);
        x.casts(11, 22, 1);
        noDeal(x, "no worths");
        x.worth(10, 22, -9);
        x.worth(11, 23, -9);
        isDeal(x, "the highest numbers", 10, 11, 23, 22, 9, 9);
        x.casts(10, 0, 1);
        x.worth(10, 0, -1);
        x.worth(11, 0, -9);
        isDeal(x, "10 is more than 9", 10, 11, 0, 22, 10, 9);
        x.casts(11, 0, 1);
        x.casts(9, 0, 1);
        isDeal(x, "that one is not turned by one alone", 10, 11, 23, 22, 9, 9);
    }

    /** "Of all by which both GAINS are above 0". */
    private static void dealGainsAboveZero() {
        CardHall x = dealing();
        x.worth(0, 1, -4);
        x.worth(1, 0, -7);
        isDeal(x, "1 and 1", 0, 1, 0, 1, 1, 1);
        x.worth(0, 1, -3);
        noDeal(x, "0 and 1");
        x.worth(0, 1, -4);
        x.worth(1, 0, -6);
        noDeal(x, "1 and 0");
        x.worth(0, 1, -3);
        noDeal(x, "0 and 0");
        x.worth(0, 1, 9);
        x.worth(1, 0, -9);
        noDeal(x, "one loses, the other gains more");
        x.worth(0, 1, -9);
        x.worth(1, 0, 9);
        noDeal(x, "the other loses");
    }

    private static void dealGreatestGains() {
        CardHall x = Check.hall(10, 10);
        Check.motion(x, 0, "say 1;");
        Check.motion(x, 0, "say 2;");
        x.casts(0, 0, 1);
        x.casts(1, 1, 1);
        for (int a = 0; a < 2; a++) {
            x.worth(a, 0, -9);
            x.worth(a, 1, -9);
        }
        isDeal(x, "eighteen each", 0, 1, 0, 1, 18, 18);
    }

    /** "a's VOICE on m and b's on n are the contrary (yes, no; nothing: no DEAL)". */
    private static void dealNeedsBothVoices() {
        CardHall x = Check.hall(10, 10, 10);
        Check.orders(x, "pass motion if yes > 5;");
        Check.motion(x, 0, "say 1;");
        Check.motion(x, 0, "say 2;");
        for (int a = 0; a < 3; a++) {
            x.worth(a, 0, -9);
            x.worth(a, 1, -9);
        }
        x.casts(2, 0, 1);
        noDeal(x, "one voice on one motion");
        x.casts(2, 1, 1);
        noDeal(x, "one alone has voices");
        x.casts(1, 1, 2);
        noDeal(x, "nothing is cast");
        x.casts(1, 1, 3);
        noDeal(x, "it is taken back");
        x.casts(1, 1, 0);
        isDeal(x, "1 has a voice on 1, 2 on 0", 1, 2, 1, 0, 9, 9);
        x.casts(1, 1, 3);
        x.mandate(0, 0, 0);
        isDeal(x, "0 by its mandate", 0, 2, 0, 1, 9, 9);
        x.casts(0, 0, 2);
        noDeal(x, "nothing is cast against the mandate");
    }

    /** One that is against is for it then: its CARDS leave the one side and come to the other. */
    private static void dealTurnsNoIntoYes() {
        CardHall x = Check.hall(4, 4, 5);
        Check.motion(x, 0, "say 1;");
        Check.motion(x, 0, "say 2;");
        for (int m = 0; m < 2; m++) {
            x.casts(2, m, 0);
            x.casts(1 - m, m, 1);
            x.casts(m, m, 0);
            x.worth(m, 1 - m, 5);
        }
        // 4 for, 9 against each: without the one it is 4 to 5, with it turned 8 to 5.
        isDeal(x, "8 to 5", 0, 1, 0, 1, 5, 5);
        x.heads(2, 9);
        x.dues(2, 90);
        noDeal(x, "8 to 9");
        x.heads(2, 8);
        noDeal(x, "8 to 8");
        x.heads(2, 7);
        isDeal(x, "8 to 7", 0, 1, 0, 1, 5, 5);
    }

    private static void dealTurnsYesIntoNo() {
        CardHall x = Check.hall(4, 4, 5);
        Check.motion(x, 0, "say 1;");
        Check.motion(x, 0, "say 2;");
        for (int m = 0; m < 2; m++) {
            x.casts(2, m, 1);
            x.casts(1 - m, m, 0);
            x.casts(m, m, 1);
            x.worth(m, 1 - m, -5);
        }
        // 9 for, 4 against each: without the one it is 5 to 4, with it turned 5 to 8.
        isDeal(x, "5 to 8", 0, 1, 0, 1, 5, 5);
        x.heads(2, 9);
        x.dues(2, 90);
        noDeal(x, "9 to 8");
        x.heads(2, 8);
        isDeal(x, "8 to 8 is lost as well", 0, 1, 0, 1, 5, 5);
    }

    /** One of both alone passes then, or the other one alone. */
    private static void dealOnOneThatPassesThen() {
        for (int side = 0; side < 2; side++) {
            CardHall x = Check.hall(10, 10, 1);
            Check.motion(x, 0, "say 1;");
            Check.motion(x, 0, "say 2;");
            x.casts(side, side, 0);
            x.casts(1 - side, 1 - side, 0);
            x.casts(2, 1 - side, 0);
            x.heads(2, 10);
            x.dues(2, 100);
            x.worth(0, side, 2);
            x.worth(1, side, 3);
            x.worth(0, 1 - side, -9);
            x.worth(1, 1 - side, -9);
            isDeal(x, "of " + side + " alone", 0, 1, 0, 1, 2, 3);
            x.worth(0, side, -1);
            noDeal(x, "it would lose");
        }
    }

    /** "On two MOTIONS ... unlike, OPEN". */
    private static void dealOnTwoOpenOnes() {
        CardHall x = Check.hall(10, 10, 1);
        Check.motion(x, 0, "say 1;");
        x.casts(0, 0, 1);
        x.casts(1, 0, 1);
        x.worth(0, 0, -9);
        x.worth(1, 0, -9);
        noDeal(x, "one motion for both");
        CardHall y = dealing();
        y.casts(0, 1, 2);
        y.casts(1, 1, 0);
        y.decide(1);
        Check.due(24, "lost", y.how(1), 2);
        noDeal(y, "n is lost");
        y = dealing();
        y.casts(0, 0, 2);
        y.decide(0);
        noDeal(y, "m is lost");
        y = dealing();
        y.decide(0);
        Check.due(24, "passed", y.how(0), 1);
        noDeal(y, "m is passed");
        y = dealing();
        y.composite(3);
        noDeal(y, "both are composed");
        y = dealing();
        Check.motion(y, 0, "say not 2;");
        y.casts(0, 2, 1);
        y.decide(2);
        Check.due(24, "fallen", y.how(1), 3);
        noDeal(y, "n is fallen");
    }

    /** "Of like ones the least a, b, m, n." */
    private static void dealOfLikeOnes() {
        CardHall x = Check.hall(3, 3, 3, 3, 4);
        for (int m = 0; m < 4; m++) {
            Check.motion(x, 0, "say " + (m + 1) + ";");
            for (int a = 0; a < 4; a++) {
                x.casts(a, m, 0);
                x.worth(a, m, 4);
            }
            x.casts(4, m, 1);
        }
        noDeal(x, "7 to 9 are not enough");
        for (int m = 0; m < 4; m++) {
            x.casts(0, m, 2);
        }
        // Now 4 to 9, and 7 to 6 with one turned, of 1, 2 and 3 alike.
        isDeal(x, "the least of all", 1, 2, 0, 1, 8, 8);
        x.worth(3, 3, 5);
        isDeal(x, "3 gains one more of 3: the least a, the least m", 1, 3, 0, 3, 8, 9);
        x.worth(2, 3, 5);
        isDeal(x, "so does 2: they are with one another", 2, 3, 0, 3, 9, 9);
        x.worth(1, 3, 5);
        isDeal(x, "so does 1: the least a, b", 1, 2, 0, 3, 9, 9);
        x.worth(1, 2, 5);
        x.worth(2, 2, 5);
        isDeal(x, "on 2 and 3", 1, 2, 2, 3, 10, 10);
    }

    private static void dealOfLikeMotions() {
        CardHall x = Check.hall(10, 10);
        for (int m = 0; m < 4; m++) {
            Check.motion(x, 0, "say " + (m + 1) + ";");
            x.casts(m < 2 ? 1 : 0, m, 1);
            x.worth(0, m, -5);
            x.worth(1, m, -5);
        }
        isDeal(x, "m 2, n 0", 0, 1, 2, 0, 10, 10);
        x.worth(0, 1, -6);
        isDeal(x, "n 1 is worth more", 0, 1, 2, 1, 11, 10);
        x.worth(0, 3, -6);
        isDeal(x, "m 3 as well", 0, 1, 3, 1, 12, 10);
    }

    /** "(As by OTHER RULES 0)": AGAINST as now, each by itself. */
    private static void dealKeepsAgainst() {
        CardHall x = Check.hall(10, 10);
        Check.orders(x, "pass motion if yes > no and against = 0;");
        Check.motion(x, 0, "say 1;");
        x.casts(0, 0, 1);
        x.decide(0);
        Check.motion(x, 0, "say not 1;");
        Check.motion(x, 0, "say 2;");
        Check.motion(x, 0, "say not 2;");
        for (int m = 1; m < 4; m++) {
            x.casts(m == 2 ? 1 : 0, m, 0);
            x.worth(0, m, 5);
            x.worth(1, m, 5);
        }
        isDeal(x, "1 is against; 2 and 3 each by itself", 0, 1, 3, 2, 10, 10);
        x.decide(3);
        isDeal(x, "2 alone, with one that is against", 0, 1, 1, 2, 5, 5);
    }

    private static void dealAsKnownToday() {
        CardHall x = dealing();
        isDeal(x, "today", 0, 1, 0, 1, 5, 1);
        x.day(1);
        isDeal(x, "the next day", 0, 1, 0, 1, 5, 1);
        x.casts(1, 0, 1);
        x.heads(1, 11);
        x.dues(1, 110);
        noDeal(x, "11 to 10 still: m stays");
        x.casts(1, 0, 3);
        x.heads(0, 0);
        noDeal(x, "0 cards turn nothing");
    }
}
