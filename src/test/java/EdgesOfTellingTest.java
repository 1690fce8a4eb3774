/** Promises 1 to 9, 16 to 20 and 36 at their edges: each method asks for one sentence of the document that names some. */
public final class EdgesOfTellingTest {
    private static final int MIN = Integer.MIN_VALUE;
    private static final int MAX = Integer.MAX_VALUE;

    public static void main(String[] args) {
        nothingIsThereAtFirst();
        nothingIsDecidedAtFirst();
        aNewObjectIsItsOwn();
        sections();
        twelveAffiliates();
        souls();
        fortyEightBranches();
        fortyEightBranchesOfOne();
        headsBounds();
        duesBounds();
        aRefusedTellingLeavesTheFormer();
        mandateValues();
        mandateOnTheFirstAndTheLast();
        mandateInAnyState();
        castValues();
        castsOnOpenMattersAlone();
        bindByOneSoul();
        bindOnEachKind();
        bindAsKnownToday();
        bindIsOfTheOrdersInForce();
        sixHundredOfAllSorts();
        daySteps();
        aHundredThousandDays();
        closingBounds();
        behindTheClosingByOneDay();
        theLastDayIsNeverBehindTheLastClosing();
        aRefusedClosingLeavesTheFormer();
        untoldAsKnownOnADay();
        untoldAtRateOne();
        toldLastByThen();
        daysThatAreKnown();
        paidIsTheLesser();
        rateBounds();
        cardsBounds();
        noBranchesNoMandate();
        mandateTies();
        voiceWhat();
        countedOfNobody();
        sumsAtTheBound();
        sectionsNoneToSix();
        sectionsOfWholeSums();
        brokenNoneToAll();
        countsAtFirstAndFull();
        sixtyStand();
        Check.finish("EdgesOfTellingTest");
    }

    private static void promise(int promise, String what, int want, int... got) {
        for (int i = 0; i < got.length; i++) {
            Check.due(promise, what + " (" + i + ")", got[i], want);
        }
    }

    private static void refused(int promise, String what, boolean... got) {
        for (int i = 0; i < got.length; i++) {
            Check.due(promise, what + " (" + i + ")", got[i], false);
        }
    }

    /** "No AFFILIATES, MOTIONS, ORDERS; DAY 0; nothing STANDS; an empty TAPE." */
    private static void nothingIsThereAtFirst() {
        CardHall x = new CardHall();
        promise(1, "none at first", -1, x.paid(0, 0), x.cards(0, 0), x.voice(0, 0, 0, 0), x.voice(0, 0, 0, 1),
            x.counted(0, 0, 0), x.counted(100, 0, 2), x.counted(200, 0, 3), x.broken(0, 0), x.branch(0, 1),
            x.how(0), x.how(100), x.how(200), x.motion(0), x.amend(0), x.place(), x.line(0, 0, 1), x.line(0, 0, 2));
        refused(1, "false at first", x.heads(0, 0), x.dues(0, 0), x.mandate(0, 0, 0), x.casts(0, 0, 0),
            x.worth(0, 0, 0));
        Check.due(1, "line(0, 0, 0)", x.line(0, 0, 0), 0);
        Check.due(11, "end(1) of an empty TAPE", x.end(1), -1);
        Check.due(11, "end(0) of an empty TAPE", x.end(0), 0);
        Check.due(8, "day(0)", x.day(0), 0);
        Check.due(10, "feed", x.feed(0, 0, 0, 0, 0), 20);
    }

    private static void nothingIsDecidedAtFirst() {
        CardHall x = new CardHall();
        promise(1, "none at first", -1, x.decide(0), x.decide(100), x.decide(200), x.voids(0), x.lost(0), x.lost(3),
            x.composite(3), x.group(1, 1), x.grouped(1, 1, 0), x.would(0, 0), x.would(200, 0),
            x.deal(0), x.deal(1), x.deal(2), x.deal(3), x.deal(4), x.deal(5));
        promise(1, "such worths", -1000, x.inOrder(1, 1, 0), x.best(1, 0, -1), x.best(1, 0, 0));
        for (int what = 0; what < 7; what++) {
            Check.due(23, "row(0, " + what + ")", Check.row(x, 0, what), -99);
        }
        // An empty text is ORDERS as well.
        Check.due(12, "orders of an empty TAPE", x.orders(), 0);
    }

    private static void aNewObjectIsItsOwn() {
        CardHall x = Check.hall(1, 2);
        Check.orders(x, "bind;");
        Check.motion(x, 0, "say 1;");
        x.casts(0, 0, 1);
        x.decide(0);
        x.day(3);
        x.closing(0);
        CardHall y = new CardHall();
        for (int what = 0; what <= 11; what++) {
            Check.due(1, "count(" + what + ") of another", y.count(what), what == 7 ? -1 : 0);
        }
        y.affiliate(0);
        y.day(1);
        Check.due(1, "another has no CLOSING", Check.motion(y, 0, "say 1;"), 0);
        Check.due(1, "nothing stands in another", y.stands(1), 0);
    }

    /** "AFFILIATES ... are of a SECTION (0 to 5)"; "NONE: no such SECTION". */
    private static void sections() {
        CardHall x = new CardHall();
        promise(2, "no such section", -1, x.affiliate(-1), x.affiliate(6), x.affiliate(MIN), x.affiliate(MAX));
        Check.due(2, "nobody came", x.count(1), 0);
        Check.due(2, "the least section takes the first number", x.affiliate(0), 0);
        Check.due(2, "no such section", x.affiliate(6), -1);
        Check.due(2, "the greatest section takes the next number", x.affiliate(5), 1);
        Check.orders(x, "cards section + 1;");
        Check.due(2, "of section 0", x.cards(0, 0), 1);
        Check.due(2, "of section 5", x.cards(1, 0), 6);
    }

    /** "AFFILIATES, at most 12, numbered as they come"; "NONE: ... twelve are there". */
    private static void twelveAffiliates() {
        CardHall x = new CardHall();
        for (int i = 0; i < 12; i++) {
            Check.due(2, "heads ahead of " + i, x.heads(i, 1), false);
            Check.due(2, "affiliate " + i, x.affiliate(i / 2), i);
            Check.due(2, "heads of " + i, x.heads(i, 1), true);
        }
        promise(2, "a 13th", -1, x.affiliate(0), x.affiliate(5), x.affiliate(-1), x.affiliate(6));
        Check.due(2, "twelve", x.count(1), 12);
        Check.due(2, "paid(11, 0)", x.paid(11, 0), 0);
        Check.due(2, "paid(12, 0)", x.paid(12, 0), -1);
        refused(2, "no 13th", x.heads(12, 1), x.dues(12, 1));
        Check.due(3, "a branch of the 12th", x.branch(11, 1), 0);
        Check.due(3, "a branch of a 13th", x.branch(12, 1), -1);
        Check.due(13, "a motion of the 12th", Check.motion(x, 11, "say 1;"), 0);
        Check.due(13, "a motion of a 13th", Check.motion(x, 12, "say 1;"), -1);
    }

    /** "SOULS (1 to 999)"; "NONE: no such AFFILIATE, other SOULS". */
    private static void souls() {
        CardHall x = new CardHall();
        x.affiliate(0);
        promise(3, "other souls", -1, x.branch(0, 0), x.branch(0, 1000), x.branch(0, -1), x.branch(0, MIN),
            x.branch(0, MAX));
        promise(3, "no such affiliate", -1, x.branch(-1, 5), x.branch(1, 5), x.branch(MIN, 5), x.branch(MAX, 5));
        Check.due(3, "none came", x.count(2), 0);
        Check.due(3, "one soul", x.branch(0, 1), 0);
        Check.due(3, "999 souls", x.branch(0, 999), 1);
        Check.orders(x, "cards souls;");
        Check.due(3, "all souls", x.cards(0, 0), 1000);
    }

    /** "BRANCHES, at most 48, numbered as they come"; "NONE: ... 48 are there". */
    private static void fortyEightBranches() {
        CardHall x = new CardHall();
        for (int i = 0; i < 12; i++) {
            x.affiliate(0);
        }
        Check.motion(x, 0, "say 1;");
        for (int i = 0; i < 48; i++) {
            Check.due(6, "a mandate ahead of branch " + i, x.mandate(i, 0, 1), false);
            Check.due(3, "branch " + i, x.branch(i % 12, 1 + i), i);
            Check.due(6, "a mandate of branch " + i, x.mandate(i, 0, 1), true);
        }
        promise(3, "a 49th", -1, x.branch(0, 1), x.branch(11, 999), x.branch(12, 1), x.branch(0, 0));
        Check.due(6, "a mandate of a 49th", x.mandate(48, 0, 1), false);
        Check.due(3, "48", x.count(2), 48);
        Check.orders(x, "cards branches * 1000 + souls;");
        Check.due(3, "4 with 12 + 24 + 36 + 48 souls", x.cards(11, 0), 4120);
    }

    private static void fortyEightBranchesOfOne() {
        CardHall x = new CardHall();
        x.affiliate(0);
        x.affiliate(0);
        for (int i = 0; i < 48; i++) {
            x.branch(1, 999);
        }
        Check.due(3, "a 49th of another", x.branch(0, 1), -1);
        Check.orders(x, "cards branches * 1000 * 100 + souls;");
        Check.due(3, "48 with 47952", x.cards(1, 0), 4847952);
        Check.due(3, "none of the other", x.cards(0, 0), 0);
        Check.motion(x, 0, "say 1;");
        x.mandate(47, 0, 0);
        Check.due(18, "the last one's mandate", x.voice(1, 0, 0, 1), 0);
    }

    /** "HEADS (0 to 9999)"; "False: no such AFFILIATE, other numbers". */
    private static void headsBounds() {
        CardHall x = new CardHall();
        x.affiliate(0);
        x.dues(0, 99999);
        refused(4, "other numbers", x.heads(0, -1), x.heads(0, 10000), x.heads(0, MIN), x.heads(0, MAX));
        refused(4, "no such one", x.heads(-1, 5), x.heads(1, 5), x.heads(12, 5), x.heads(MIN, 5), x.heads(MAX, 5));
        Check.due(4, "no telling", x.count(3), 1);
        Check.due(4, "none", x.paid(0, 0), 0);
        Check.due(4, "9999", x.heads(0, 9999), true);
        Check.due(4, "9999", x.paid(0, 0), 9999);
        Check.due(4, "9998", x.heads(0, 9998), true);
        Check.due(4, "9998", x.paid(0, 0), 9998);
        Check.due(4, "0", x.heads(0, 0), true);
        Check.due(4, "0", x.paid(0, 0), 0);
        Check.due(4, "each is a telling", x.count(3), 4);
    }

    /** "DUES (0 to 99999)"; "False likewise." */
    private static void duesBounds() {
        CardHall x = new CardHall();
        x.affiliate(0);
        x.heads(0, 9999);
        refused(5, "other numbers", x.dues(0, -1), x.dues(0, 100000), x.dues(0, MIN), x.dues(0, MAX));
        refused(5, "no such one", x.dues(-1, 5), x.dues(1, 5), x.dues(12, 5), x.dues(MIN, 5), x.dues(MAX, 5));
        Check.due(5, "no telling", x.count(3), 1);
        Check.due(5, "99999", x.dues(0, 99999), true);
        Check.due(5, "9999 by 10", x.paid(0, 0), 9999);
        Check.due(5, "99989", x.dues(0, 99989), true);
        Check.due(5, "9998 by 10, rounded down", x.paid(0, 0), 9998);
        Check.due(5, "0", x.dues(0, 0), true);
        Check.due(5, "0", x.paid(0, 0), 0);
        Check.due(5, "each is a telling", x.count(3), 4);
    }

    private static void aRefusedTellingLeavesTheFormer() {
        CardHall x = Check.hall(7);
        Check.motion(x, 0, "say 1;");
        x.mandate(0, 0, 1);
        x.casts(0, 0, 0);
        int tellings = x.count(3);
        refused(4, "refused", x.heads(0, 10000), x.dues(0, 100000), x.mandate(0, 0, 3), x.casts(0, 0, 4));
        Check.due(16, "paid as before", x.paid(0, 0), 7);
        Check.due(18, "voice as before", x.voice(0, 0, 0, 0), 0);
        Check.due(18, "mandate as before", x.voice(0, 0, 0, 1), 1);
        Check.due(36, "tellings as before", x.count(3), tellings);
    }

    /** "MANDATE of a BRANCH (0 to 2). False: no such ones". */
    private static void mandateValues() {
        CardHall x = Check.hall(5, 5);
        Check.motion(x, 0, "say 1;");
        int tellings = x.count(3);
        refused(6, "no such value", x.mandate(0, 0, -1), x.mandate(0, 0, 3), x.mandate(0, 0, MIN), x.mandate(0, 0, MAX));
        refused(6, "no such branch", x.mandate(-1, 0, 1), x.mandate(2, 0, 1), x.mandate(MIN, 0, 1), x.mandate(MAX, 0, 1));
        refused(6, "no such matter", x.mandate(0, -1, 1), x.mandate(0, 1, 1), x.mandate(0, MIN, 1), x.mandate(0, MAX, 1));
        Check.due(6, "no telling", x.count(3), tellings);
        for (int v = 0; v <= 2; v++) {
            Check.due(6, "mandate " + v, x.mandate(1, 0, v), true);
            Check.due(6, "voice of " + v, x.voice(1, 0, 0, 1), v);
            Check.due(6, "of the other", x.voice(0, 0, 0, 1), 2);
        }
    }

    /** "MATTERS are MOTIONS (by their numbers), AMENDMENTS (100 and the number), ORDERS (200 and the number)." */
    private static void mandateOnTheFirstAndTheLast() {
        CardHall x = fullHall();
        int[] there = {0, 23, 100, 139, 200, 209};
        int[] notThere = {-1, 24, 25, 99, 140, 141, 199, 210, 211, 255, 256, 300};
        for (int matter : there) {
            Check.due(6, "mandate on " + matter, x.mandate(0, matter, 1), true);
            Check.due(18, "voice on " + matter, x.voice(0, matter, 0, 0), 1);
            Check.due(19, "counted of " + matter, x.counted(matter, 0, 0), 5);
            Check.due(20, "broken on " + matter, x.broken(matter, 0), 0);
            Check.due(24, "how of " + matter, x.how(matter), matter == 200 ? 1 : 0);
            Check.due(7, "casts on " + matter, x.casts(0, matter, 0), matter != 200);
            Check.due(31, "would of " + matter, x.would(matter, 0), matter == 200 ? -1 : 0);
        }
        for (int matter : notThere) {
            Check.due(6, "mandate on " + matter, x.mandate(0, matter, 1), false);
            Check.due(7, "casts on " + matter, x.casts(0, matter, 1), false);
            promise(24, "no matter " + matter, -1, x.voice(0, matter, 0, 0), x.voice(0, matter, 0, 1),
                x.counted(matter, 0, 0), x.broken(matter, 0), x.how(matter), x.would(matter, 0), x.decide(matter));
        }
    }

    /** All that there can be: 12 AFFILIATES, 48 BRANCHES, 24 MOTIONS, 40 AMENDMENTS, 10 ORDERS. */
    static CardHall fullHall() {
        CardHall x = Check.hall(5, 4, 3, 2, 1, 1, 1, 1, 1, 1, 1, 1);
        for (int i = 12; i < 48; i++) {
            x.branch(i % 12, 3);
        }
        for (int i = 0; i < 24; i++) {
            Check.motion(x, i % 12, "say " + (i + 1) + ";");
        }
        for (int i = 0; i < 40; i++) {
            Check.amend(x, i % 24, "add " + (i + 20) + ";");
        }
        for (int i = 0; i < 10; i++) {
            Check.orders(x, "");
        }
        return x;
    }

    private static void mandateInAnyState() {
        CardHall x = Check.hall(5);
        Check.motion(x, 0, "say 1;");
        Check.motion(x, 0, "say not 1;");
        Check.motion(x, 0, "say 2;");
        Check.motion(x, 0, "say 3;");
        Check.motion(x, 0, "say 4;");
        x.casts(0, 0, 1);
        x.decide(0);
        x.decide(2);
        x.composite(0b11000);
        int[] how = {1, 3, 2, 4, 4, 0};
        for (int m = 0; m < how.length; m++) {
            Check.due(24, "how " + m, x.how(m), how[m]);
            Check.due(6, "a mandate needs no open matter, " + m, x.mandate(0, m, 0), true);
            Check.due(7, "casts need one, " + m, x.casts(0, m, 1), how[m] == 0);
        }
    }

    /** "What an AFFILIATE CASTS (0 to 3). False: no such ones". */
    private static void castValues() {
        CardHall x = Check.hall(5, 5);
        Check.motion(x, 0, "say 1;");
        x.mandate(1, 0, 0);
        int tellings = x.count(3);
        refused(7, "no such value", x.casts(1, 0, -1), x.casts(1, 0, 4), x.casts(1, 0, MIN), x.casts(1, 0, MAX));
        refused(7, "no such affiliate", x.casts(-1, 0, 1), x.casts(2, 0, 1), x.casts(MIN, 0, 1), x.casts(MAX, 0, 1));
        refused(7, "no such matter", x.casts(1, -1, 1), x.casts(1, 1, 1), x.casts(1, MIN, 1), x.casts(1, MAX, 1));
        Check.due(7, "no telling", x.count(3), tellings);
        for (int v = 0; v <= 3; v++) {
            Check.due(7, "casts " + v, x.casts(1, 0, v), true);
            Check.due(7, "voice of " + v, x.voice(1, 0, 0, 0), v == 3 ? 0 : v);
            Check.due(7, "of the other", x.voice(0, 0, 0, 0), 2);
        }
        Check.due(7, "each is a telling", x.count(3), tellings + 4);
    }

    /** "False: ... the MATTER isn't OPEN". */
    private static void castsOnOpenMattersAlone() {
        CardHall x = Check.hall(5);
        Check.motion(x, 0, "say 1; say 2;");
        Check.amend(x, 0, "add 3;");
        Check.amend(x, 0, "add 4;");
        Check.amend(x, 0, "add 5;");
        Check.orders(x, "");
        Check.orders(x, "");
        x.casts(0, 100, 1);
        x.decide(100);
        x.decide(101);
        refused(7, "passed, lost, in force", x.casts(0, 100, 1), x.casts(0, 101, 1), x.casts(0, 200, 1), x.casts(0, 200, 3));
        Check.due(7, "open yet", x.casts(0, 102, 1), true);
        x.decide(0);
        refused(7, "lost, fallen with it", x.casts(0, 0, 3), x.casts(0, 102, 3));
        Check.due(7, "open orders", x.casts(0, 201, 0), true);
        x.decide(201);
        refused(7, "lost orders", x.casts(0, 201, 1));
    }

    /** "With bind nothing may be CAST that is unlike the MANDATE (yes or no)"; "(3 is never barred)". */
    private static void bindByOneSoul() {
        CardHall x = new CardHall();
        x.affiliate(0);
        x.branch(0, 5);
        x.branch(0, 5);
        x.branch(0, 1);
        Check.orders(x, "bind;");
        Check.motion(x, 0, "say 1;");
        x.mandate(0, 0, 1);
        x.mandate(1, 0, 0);
        for (int v = 0; v <= 3; v++) {
            Check.due(7, "as many for as against bind to nothing, " + v, x.casts(0, 0, v), true);
        }
        x.mandate(2, 0, 1);
        for (int v = 0; v <= 3; v++) {
            Check.due(7, "one soul more for, " + v, x.casts(0, 0, v), v == 1 || v == 3);
        }
        x.mandate(2, 0, 0);
        for (int v = 0; v <= 3; v++) {
            Check.due(7, "one soul more against, " + v, x.casts(0, 0, v), v == 0 || v == 3);
        }
        x.mandate(2, 0, 2);
        for (int v = 0; v <= 3; v++) {
            Check.due(7, "none again, " + v, x.casts(0, 0, v), true);
        }
    }

    private static void bindOnEachKind() {
        CardHall x = Check.hall(5);
        Check.orders(x, "bind;");
        Check.orders(x, "");
        Check.motion(x, 0, "say 1;");
        Check.amend(x, 0, "add 2;");
        for (int matter : new int[] {0, 100, 201}) {
            x.mandate(0, matter, 0);
            Check.due(7, "bound on " + matter, x.casts(0, matter, 1), false);
            Check.due(7, "bound on " + matter + ", nothing", x.casts(0, matter, 2), false);
            Check.due(7, "as bound on " + matter, x.casts(0, matter, 0), true);
        }
    }

    /** "... as known on the DAY at hand." */
    private static void bindAsKnownToday() {
        CardHall x = Check.hall(5);
        Check.orders(x, "bind;");
        Check.motion(x, 0, "say 1;");
        Check.due(7, "no mandate yet", x.casts(0, 0, 0), true);
        x.mandate(0, 0, 1);
        Check.due(7, "told today", x.casts(0, 0, 0), false);
        x.day(1000);
        Check.due(7, "told long ago", x.casts(0, 0, 0), false);
        Check.due(7, "what was cast ahead of it stays", x.voice(0, 0, 1000, 0), 0);
        x.mandate(0, 0, 0);
        Check.due(7, "told anew", x.casts(0, 0, 0), true);
        Check.due(7, "not as of old", x.casts(0, 0, 1), false);
    }

    private static void bindIsOfTheOrdersInForce() {
        CardHall x = Check.hall(5);
        Check.orders(x, "");
        Check.orders(x, "bind;");
        Check.motion(x, 0, "say 1;");
        x.mandate(0, 0, 1);
        Check.due(7, "open orders bind nobody", x.casts(0, 0, 0), true);
        x.casts(0, 201, 1);
        x.decide(201);
        Check.due(7, "they are in force", x.casts(0, 0, 0), false);
        Check.due(22, "void", x.voids(0), 0);
        Check.due(7, "they are no more", x.casts(0, 0, 0), true);
    }

    /** "At most 600 such tellings (HEADS, DUES, MANDATES, CASTS) in all". */
    private static void sixHundredOfAllSorts() {
        for (int last = 0; last < 4; last++) {
            CardHall x = Check.hall(5);
            Check.motion(x, 0, "say 1;");
            while (x.count(3) < 599) {
                x.heads(0, x.count(3));
                x.dues(0, x.count(3));
                x.mandate(0, 0, 1);
                x.casts(0, 0, 0);
                while (x.count(3) > 594 && x.count(3) < 599) {
                    x.heads(0, 8);
                }
            }
            Check.due(36, "one less", x.count(3), 599);
            refused(4, "refused is not counted", x.heads(0, -1), x.dues(0, -1), x.mandate(0, 0, 3), x.casts(0, 0, 4));
            Check.due(36, "one less still", x.count(3), 599);
            Check.due(4, "the 600th is of sort " + last, last == 0 ? x.heads(0, 3) : last == 1 ? x.dues(0, 30)
                : last == 2 ? x.mandate(0, 0, 0) : x.casts(0, 0, 3), true);
            refused(4, "a 601st", x.heads(0, 1), x.dues(0, 1), x.mandate(0, 0, 1), x.casts(0, 0, 3), x.casts(0, 0, 1));
            Check.due(36, "600", x.count(3), 600);
            Check.due(16, "paid", x.paid(0, 0), last == 0 || last == 1 ? 3 : 8);
            Check.due(18, "mandate", x.voice(0, 0, 0, 1), last == 2 ? 0 : 1);
            Check.due(18, "voice", x.voice(0, 0, 0, 0), last == 3 ? 1 : 0);
            Check.due(32, "a worth is no telling", x.worth(0, 0, 1), true);
        }
    }

    /** "So many DAYS (0 to 1000) go by: the DAY. NONE: another n". */
    private static void daySteps() {
        CardHall x = new CardHall();
        promise(8, "another n", -1, x.day(-1), x.day(1001), x.day(MIN), x.day(MAX), x.day(100000));
        Check.due(8, "the day stays", x.count(0), 0);
        Check.due(8, "no day goes by", x.day(0), 0);
        Check.due(8, "a thousand", x.day(1000), 1000);
        Check.due(8, "one", x.day(1), 1001);
        promise(8, "another n", -1, x.day(-1), x.day(1001));
        Check.due(8, "the day stays", x.day(0), 1001);
    }

    /** "NONE: ... it would be above 100000." */
    private static void aHundredThousandDays() {
        CardHall x = new CardHall();
        for (int i = 1; i <= 99; i++) {
            x.day(1000);
        }
        Check.due(8, "to 99001", x.day(1), 99001);
        Check.due(8, "to 100001", x.day(1000), -1);
        Check.due(8, "the day stays", x.count(0), 99001);
        Check.due(8, "to 100000", x.day(999), 100000);
        promise(8, "above", -1, x.day(1), x.day(1000), x.day(MAX), x.day(-1));
        Check.due(8, "no day goes by", x.day(0), 100000);
        Check.due(9, "the closing may be the last day", x.closing(100000), true);
        x.affiliate(0);
        x.heads(0, 3);
        x.dues(0, 30);
        Check.due(16, "known on the last day", x.paid(0, 100000), 3);
        Check.due(16, "known on the day ahead", x.paid(0, 99999), 0);
        Check.due(16, "known on a day behind", x.paid(0, 100001), -1);
        Check.orders(x, "pass motion if day = 1000 * 100;");
        Check.motion(x, 0, "say 1;");
        Check.due(31, "the day in pass", x.would(0, 0), 1);
    }

    /** "CLOSING is a DAY (NONE: none). False: no such DAY (0 to 100000)." */
    private static void closingBounds() {
        CardHall x = new CardHall();
        refused(9, "no such day", x.closing(-2), x.closing(100001), x.closing(MIN), x.closing(MAX));
        Check.due(9, "the first", x.closing(0), true);
        Check.due(9, "the last", x.closing(100000), true);
        Check.due(9, "none", x.closing(CardHall.NONE), true);
        x.day(10);
        Check.due(9, "one gone by", x.closing(9), true);
    }

    /** "Told behind the CLOSING ... one is LATE". */
    private static void behindTheClosingByOneDay() {
        CardHall x = Check.hall(1);
        x.day(5);
        x.closing(6);
        Check.due(13, "ahead of it", Check.motion(x, 0, "say 1;"), 0);
        x.closing(5);
        Check.due(13, "on it", Check.motion(x, 0, "say 1;"), 1);
        x.closing(4);
        Check.due(13, "a day behind", Check.motion(x, 0, "say 1;"), -6);
        x.closing(0);
        Check.due(13, "behind day 0", Check.motion(x, 0, "say 1;"), -6);
        x.closing(-1);
        Check.due(13, "there is none", Check.motion(x, 0, "say 1;"), 2);
        x.closing(4);
        Check.due(14, "amendments are never late", Check.amend(x, 0, "add 2;"), 0);
        Check.due(12, "nor are orders", Check.orders(x, ""), 0);
        Check.due(28, "nor composites", x.composite(3), 3);
    }

    private static void theLastDayIsNeverBehindTheLastClosing() {
        CardHall x = Check.hall(1);
        for (int i = 0; i < 100; i++) {
            x.day(1000);
        }
        x.closing(100000);
        Check.due(13, "on the last day", Check.motion(x, 0, "say 1;"), 0);
        x.closing(99999);
        Check.due(13, "a day behind", Check.motion(x, 0, "say 1;"), -6);
    }

    private static void aRefusedClosingLeavesTheFormer() {
        CardHall x = Check.hall(1);
        x.day(5);
        refused(9, "refused", x.closing(-2), x.closing(100001));
        Check.due(13, "there is none yet", Check.motion(x, 0, "say 1;"), 0);
        x.closing(4);
        refused(9, "refused", x.closing(-2), x.closing(100001));
        Check.due(13, "it is 4 still", Check.motion(x, 0, "say 1;"), -6);
        x.closing(5);
        refused(9, "refused", x.closing(-2), x.closing(MIN));
        Check.due(13, "it is 5 still", Check.motion(x, 0, "say 1;"), 1);
    }

    /** "(HEADS, DUES 0, MANDATES none, CASTS taken back without)"; the day ahead is asked behind the later one. */
    private static void untoldAsKnownOnADay() {
        CardHall x = new CardHall();
        x.affiliate(0);
        x.branch(0, 1);
        Check.motion(x, 0, "say 1;");
        x.day(1);
        x.heads(0, 5);
        x.day(1);
        x.dues(0, 50);
        x.day(1);
        x.mandate(0, 0, 1);
        x.day(1);
        x.casts(0, 0, 0);
        int[] paid = {0, 0, 5, 5, 5};
        int[] mandate = {2, 2, 2, 1, 1};
        int[] voice = {2, 2, 2, 1, 0};
        int[] yes = {0, 0, 0, 5, 0};
        for (int day = 4; day >= 0; day--) {
            Check.due(16, "paid on " + day, x.paid(0, day), paid[day]);
            Check.due(17, "cards on " + day, x.cards(0, day), paid[day]);
            Check.due(18, "mandate on " + day, x.voice(0, 0, day, 1), mandate[day]);
            Check.due(18, "voice on " + day, x.voice(0, 0, day, 0), voice[day]);
            Check.due(19, "yes on " + day, x.counted(0, day, 0), yes[day]);
            Check.due(19, "all on " + day, x.counted(0, day, 2), paid[day]);
            Check.due(20, "broken on " + day, x.broken(0, day), day == 4 ? 1 : 0);
        }
        CardHall y = new CardHall();
        y.affiliate(0);
        y.heads(0, 5);
        y.day(1);
        y.dues(0, 50);
        Check.due(16, "dues are told today", y.paid(0, 1), 5);
        Check.due(16, "and weren't yesterday", y.paid(0, 0), 0);
        CardHall z = new CardHall();
        z.affiliate(0);
        z.dues(0, 50);
        z.day(1);
        z.heads(0, 5);
        Check.due(16, "heads are told today", z.paid(0, 1), 5);
        Check.due(16, "and weren't yesterday", z.paid(0, 0), 0);
    }

    /** At rate 1 a single one of HEADS or DUES would count. */
    private static void untoldAtRateOne() {
        CardHall x = new CardHall();
        x.affiliate(0);
        x.affiliate(0);
        Check.orders(x, "rate 1;");
        x.heads(0, 5);
        x.dues(1, 5);
        Check.due(16, "without dues", x.paid(0, 0), 0);
        Check.due(16, "without heads", x.paid(1, 0), 0);
        x.dues(0, 1);
        x.heads(1, 1);
        Check.due(16, "dues 1", x.paid(0, 0), 1);
        Check.due(16, "heads 1", x.paid(1, 0), 1);
    }

    /** "As known on a DAY that counts which was told last by then". */
    private static void toldLastByThen() {
        CardHall x = new CardHall();
        x.affiliate(0);
        x.dues(0, 99999);
        x.heads(0, 1);
        x.heads(0, 2);
        x.day(2);
        x.heads(0, 4);
        x.heads(0, 3);
        x.day(3);
        int[] want = {2, 2, 3, 3, 3, 3};
        for (int day = 0; day <= 5; day++) {
            Check.due(16, "on " + day, x.paid(0, day), want[day]);
        }
    }

    /** "As known on a DAY (0 to the one at hand ...)"; "NONE: no such ones." */
    private static void daysThatAreKnown() {
        CardHall x = Check.hall(3);
        Check.motion(x, 0, "say 1;");
        x.casts(0, 0, 1);
        x.day(7);
        for (int day : new int[] {0, 7}) {
            Check.due(16, "paid on " + day, x.paid(0, day), 3);
            Check.due(17, "cards on " + day, x.cards(0, day), 3);
            Check.due(18, "voice on " + day, x.voice(0, 0, day, 0), 1);
            Check.due(19, "counted on " + day, x.counted(0, day, 0), 3);
            Check.due(20, "broken on " + day, x.broken(0, day), 0);
        }
        for (int day : new int[] {-1, 8, MIN, MAX}) {
            promise(16, "known on " + day, -1, x.paid(0, day), x.cards(0, day), x.voice(0, 0, day, 0),
                x.voice(0, 0, day, 1), x.counted(0, day, 0), x.counted(0, day, 2), x.broken(0, day));
        }
        for (int a : new int[] {-1, 1, 12, MIN, MAX}) {
            promise(16, "no affiliate " + a, -1, x.paid(a, 0), x.cards(a, 0), x.voice(a, 0, 0, 0), x.voice(a, 0, 0, 1));
        }
    }

    /** "The lesser one of HEADS and DUES by rate, rounded down." */
    private static void paidIsTheLesser() {
        CardHall x = new CardHall();
        x.affiliate(0);
        x.heads(0, 4);
        int[] dues = {0, 9, 10, 39, 40, 49, 50, 99999};
        int[] want = {0, 0, 1, 3, 4, 4, 4, 4};
        for (int i = 0; i < dues.length; i++) {
            x.dues(0, dues[i]);
            Check.due(16, "dues " + dues[i], x.paid(0, 0), want[i]);
        }
    }

    /** "of rate 0 or above 999": 1 and 999 are taken. */
    private static void rateBounds() {
        CardHall x = new CardHall();
        x.affiliate(0);
        x.heads(0, 9999);
        Check.orders(x, "rate 999;");
        int[] dues = {998, 999, 1997, 1998, 99999};
        int[] want = {0, 1, 1, 2, 100};
        for (int i = 0; i < dues.length; i++) {
            x.dues(0, dues[i]);
            Check.due(16, "dues " + dues[i] + " by 999", x.paid(0, 0), want[i]);
        }
        CardHall y = new CardHall();
        y.affiliate(0);
        y.heads(0, 9999);
        Check.orders(y, "rate 1;");
        y.dues(0, 9998);
        Check.due(16, "dues 9998 by 1", y.paid(0, 0), 9998);
        y.dues(0, 99999);
        Check.due(16, "dues 99999 by 1", y.paid(0, 0), 9999);
    }

    /** "CARDS of an AFFILIATE: the SUM of cards, 0 at least". */
    private static void cardsBounds() {
        String[] sums = {"0", "0 - 1", "0 - 1000 * 1000 * 1000", "1 - 1", "1", "1000 * 1000 * 1000",
            "1000 * 1000 * 1000 + 1", "heads - 8", "heads - 7", "heads - 6"};
        int[] want = {0, 0, 0, 0, 1, 1000000000, 1000000000, 0, 0, 1};
        for (int i = 0; i < sums.length; i++) {
            CardHall x = Check.hall(7);
            Check.orders(x, "cards " + sums[i] + ";");
            Check.due(17, "cards " + sums[i], x.cards(0, 0), want[i]);
            Check.motion(x, 0, "say 1;");
            x.casts(0, 0, 1);
            Check.due(19, "yes by " + sums[i], x.counted(0, 0, 0), want[i]);
            Check.due(19, "all by " + sums[i], x.counted(0, 0, 2), want[i]);
            Check.due(16, "paid heads stay", x.paid(0, 0), 7);
        }
    }

    /** "MANDATE of an AFFILIATE: ... else none": without BRANCHES too. */
    private static void noBranchesNoMandate() {
        CardHall x = new CardHall();
        x.affiliate(0);
        x.affiliate(0);
        x.branch(1, 999);
        Check.motion(x, 0, "say 1;");
        x.mandate(0, 0, 1);
        Check.due(18, "mandate without branches", x.voice(0, 0, 0, 1), 2);
        Check.due(18, "voice without branches", x.voice(0, 0, 0, 0), 2);
        x.casts(0, 0, 0);
        Check.due(18, "voice by casting", x.voice(0, 0, 0, 0), 0);
        Check.due(20, "nothing to break", x.broken(0, 0), 0);
    }

    /** "yes, if SOULS of its BRANCHES for yes are more than those for no, no if they are less, else none". */
    private static void mandateTies() {
        CardHall x = new CardHall();
        x.affiliate(0);
        x.branch(0, 999);
        x.branch(0, 998);
        x.branch(0, 1);
        x.branch(0, 1);
        Check.motion(x, 0, "say 1;");
        x.mandate(0, 0, 1);
        x.mandate(1, 0, 0);
        Check.due(18, "999 to 998", x.voice(0, 0, 0, 1), 1);
        x.mandate(2, 0, 0);
        Check.due(18, "999 to 999", x.voice(0, 0, 0, 1), 2);
        x.mandate(3, 0, 0);
        Check.due(18, "999 to 1000", x.voice(0, 0, 0, 1), 0);
        x.mandate(0, 0, 2);
        x.mandate(1, 0, 2);
        x.mandate(2, 0, 2);
        x.mandate(3, 0, 2);
        Check.due(18, "none told", x.voice(0, 0, 0, 1), 2);
    }

    /** "VOICE (what 0), MANDATE (1) ... NONE: no such ones." */
    private static void voiceWhat() {
        CardHall x = Check.hall(1);
        Check.motion(x, 0, "say 1;");
        x.mandate(0, 0, 1);
        x.casts(0, 0, 2);
        Check.due(18, "nothing is cast against a mandate", x.voice(0, 0, 0, 0), 2);
        Check.due(18, "mandate", x.voice(0, 0, 0, 1), 1);
        promise(18, "no such what", -1, x.voice(0, 0, 0, -1), x.voice(0, 0, 0, 2), x.voice(0, 0, 0, MIN), x.voice(0, 0, 0, MAX));
    }

    private static void countedOfNobody() {
        CardHall x = new CardHall();
        x.affiliate(0);
        Check.motion(x, 0, "say 1;");
        for (int what = 0; what < 4; what++) {
            Check.due(19, "of one without cards, " + what, x.counted(0, 0, what), 0);
        }
        x.casts(0, 0, 1);
        for (int what = 0; what < 4; what++) {
            Check.due(19, "a voice without cards, " + what, x.counted(0, 0, what), 0);
        }
        promise(19, "no such what", -1, x.counted(0, 0, -1), x.counted(0, 0, 4), x.counted(0, 0, MIN), x.counted(0, 0, MAX));
    }

    /** "(Each of these sums 1000000000 at most)": at it and one above, each sum by itself. */
    private static void sumsAtTheBound() {
        // SECTION 0 has 1000000000 less one, SECTION 1 has 2, SECTION 2 has 1, SECTION 5 all there can be.
        String cards = "cards (1-section)*(2-section)/2*(1-section/3)*(1000*1000*1000-1)"
            + "+section*(3-section)*(5-section)/4*(1-section/3)+section/5*1000*1000*1000;";
        CardHall x = new CardHall();
        for (int section : new int[] {0, 1, 2, 5}) {
            x.affiliate(section);
        }
        Check.due(12, "the sum by sections", Check.orders(x, cards), 0);
        int[] want = {999999999, 2, 1, 1000000000};
        for (int a = 0; a < 4; a++) {
            Check.due(17, "cards of " + a, x.cards(a, 0), want[a]);
        }
        Check.motion(x, 0, "say 1;");
        for (int side = 0; side < 2; side++) {
            x.casts(0, 0, 1 - side);
            x.casts(1, 0, 2);
            x.casts(2, 0, 2);
            x.casts(3, 0, 2);
            Check.due(19, "one less", x.counted(0, 0, side), 999999999);
            x.casts(2, 0, 1 - side);
            Check.due(19, "at the bound", x.counted(0, 0, side), 1000000000);
            x.casts(2, 0, 2);
            x.casts(1, 0, 1 - side);
            Check.due(19, "one above", x.counted(0, 0, side), 1000000000);
            x.casts(3, 0, 1 - side);
            Check.due(19, "far above", x.counted(0, 0, side), 1000000000);
            Check.due(19, "the other side", x.counted(0, 0, 1 - side), 0);
            Check.due(19, "all", x.counted(0, 0, 2), 1000000000);
        }
        CardHall y = new CardHall();
        y.affiliate(0);
        y.affiliate(2);
        Check.orders(y, cards);
        Check.motion(y, 0, "say 1;");
        Check.due(19, "all at the bound", y.counted(0, 0, 2), 1000000000);
        CardHall z = new CardHall();
        z.affiliate(0);
        Check.orders(z, cards);
        Check.motion(z, 0, "say 1;");
        Check.due(19, "all, one less", z.counted(0, 0, 2), 999999999);
        z.affiliate(1);
        Check.due(19, "all, one above", z.counted(0, 0, 2), 1000000000);
    }

    /** "SECTIONS: how many of the six have more YES than NO". */
    private static void sectionsNoneToSix() {
        CardHall x = Check.hall(2, 2, 2, 2, 2, 2, 1, 1, 1, 1, 1, 3);
        Check.motion(x, 0, "say 1;");
        for (int a = 0; a < 12; a++) {
            x.casts(a, 0, a < 6 ? 1 : 0);
        }
        Check.due(19, "five of 2 to 1, one of 2 to 3", x.counted(0, 0, 3), 5);
        x.casts(11, 0, 2);
        Check.due(19, "all six", x.counted(0, 0, 3), 6);
        x.heads(6, 2);
        x.dues(6, 20);
        Check.due(19, "as many for as against is not more", x.counted(0, 0, 3), 5);
        for (int a = 0; a < 6; a++) {
            x.casts(a, 0, 2);
        }
        Check.due(19, "none", x.counted(0, 0, 3), 0);
        for (int a = 0; a < 12; a++) {
            x.casts(a, 0, 3);
        }
        Check.due(19, "nobody has a voice", x.counted(0, 0, 3), 0);
    }

    /** "... (of whole sums)". */
    private static void sectionsOfWholeSums() {
        CardHall x = new CardHall();
        for (int a = 0; a < 12; a++) {
            x.affiliate(4);
        }
        Check.orders(x, "cards 1000*1000*1000;");
        Check.motion(x, 0, "say 1;");
        for (int a = 0; a < 12; a++) {
            x.casts(a, 0, a < 6 ? 1 : 0);
        }
        Check.due(19, "six thousand millions each", x.counted(0, 0, 3), 0);
        x.casts(11, 0, 2);
        Check.due(19, "six to five", x.counted(0, 0, 3), 1);
        Check.due(19, "yes", x.counted(0, 0, 0), 1000000000);
        Check.due(19, "no", x.counted(0, 0, 1), 1000000000);
        x.casts(11, 0, 1);
        x.casts(10, 0, 1);
        for (int a = 0; a < 12; a++) {
            x.casts(a, 0, 1);
        }
        Check.due(19, "twelve for", x.counted(0, 0, 3), 1);
        for (int a = 0; a < 12; a++) {
            x.casts(a, 0, 0);
        }
        Check.due(19, "twelve against", x.counted(0, 0, 3), 0);
    }

    /** "How many AFFILIATES CAST another word than their MANDATE". */
    private static void brokenNoneToAll() {
        CardHall x = Check.hall(1, 1, 1, 1, 1, 1, 1, 1, 1, 1, 1, 1);
        Check.motion(x, 0, "say 1;");
        for (int a = 0; a < 12; a++) {
            x.mandate(a, 0, a % 2);
        }
        Check.due(20, "nobody casts", x.broken(0, 0), 0);
        for (int a = 0; a < 12; a++) {
            x.casts(a, 0, 1 - a % 2);
            Check.due(20, "broken by " + a, x.broken(0, 0), a + 1);
        }
        for (int a = 0; a < 12; a++) {
            x.casts(a, 0, a % 2);
            Check.due(20, "kept by " + a, x.broken(0, 0), 11 - a);
        }
    }

    /** "NONE for others." */
    private static void countsAtFirstAndFull() {
        CardHall x = fullHall();
        for (int i = 0; i < 15; i++) {
            x.feed(0, 0, 0, 0, 0);
        }
        int[] want = {0, 12, 48, 24, 24, 40, 10, 0, 0, 300, 24, 0};
        for (int what = 0; what < want.length; what++) {
            Check.due(36, "full, count(" + what + ")", x.count(what), want[what]);
        }
        promise(36, "no such what", -1, x.count(-1), x.count(12), x.count(MIN), x.count(MAX));
    }

    /** "How many N STAND (or their contrary)": all sixty. */
    private static void sixtyStand() {
        CardHall x = Check.hall(5);
        for (int m = 0; m < 5; m++) {
            StringBuilder text = new StringBuilder();
            for (int i = 1; i <= 12; i++) {
                text.append("say ").append(i % 2 == 0 ? "not " : "").append(m * 12 + i).append(";");
            }
            Check.due(13, "motion " + m, Check.motion(x, 0, text.toString()), m);
            x.casts(0, m, 1);
            Check.due(21, "passed " + m, x.decide(m), 1);
            Check.due(36, "stand", x.count(11), (m + 1) * 12);
        }
        for (int n = 1; n <= 60; n++) {
            Check.due(26, "stands(" + n + ")", x.stands(n), n % 2 == 0 ? -1 : 1);
        }
        promise(26, "no such n", -2, x.stands(0), x.stands(61), x.stands(-1), x.stands(MIN), x.stands(MAX), x.stands(64));
        Check.motion(x, 0, "say not 1; say 60;");
        x.casts(0, 5, 1);
        x.decide(5);
        Check.due(26, "the contrary of 1", x.stands(1), -1);
        Check.due(26, "60 itself", x.stands(60), 1);
        Check.due(36, "as many stand", x.count(11), 60);
    }
}
