/** Promises 21 to 26 at their edges: what passes by one CARD, full and empty rows of LINES, what falls, VOID cards, ROWS. */
public final class EdgesOfDecidingTest {
    private static final int MIN = Integer.MIN_VALUE;
    private static final int MAX = Integer.MAX_VALUE;

    public static void main(String[] args) {
        passingByOneCard();
        whatCantBeDecided();
        decidedAsKnownToday();
        twelveLinesAreFull();
        strikingAllTwelve();
        theLastLine();
        closingUp();
        turningStaysWhereItIs();
        addingWhereAnNIs();
        otherMotionsStayAsTheyAre();
        againstByEitherSide();
        againstOfTheLinesWithItDone();
        againstOfEachNumber();
        onlyTheContraryFalls();
        twentyThreeFall();
        amendmentsFallWithTheirMotion();
        whatStandsIsReplaced();
        ordersOneAfterTheOther();
        voidWithoutCards();
        voidWithoutVoice();
        allTwelveAreVoid();
        voidAsItWasAheadOfIt();
        voidOfOrdersAndAmendments();
        voidOfTheLatestAlone();
        voidIsOverAsSomethingComes();
        voidGoesOnAsNothingComes();
        voidOnALaterDay();
        rowsOfEachKind();
        allRowsThereCanBe();
        rowBounds();
        aSumAtTheBoundInARow();
        howBounds();
        lineBounds();
        standsBounds();
        Check.finish("EdgesOfDecidingTest");
    }

    private static void none(int promise, String what, int... got) {
        for (int i = 0; i < got.length; i++) {
            Check.due(promise, what + " (" + i + ")", got[i], -1);
        }
    }

    /** LINES of the numbers from first to last, each followed by what is told. */
    private static String says(int first, int last, String behind) {
        StringBuilder text = new StringBuilder();
        for (int n = first; n <= last; n++) {
            text.append("say ").append(n).append(behind).append(";");
        }
        return text.toString();
    }

    private static int pass(CardHall x, int matter) {
        x.casts(0, matter, 1);
        return x.decide(matter);
    }

    /** "YES more than NO", of each KIND. */
    private static void passingByOneCard() {
        int[][] sides = {{5, 4, 1}, {5, 5, 0}, {5, 6, 0}, {0, 0, 0}, {1, 0, 1}, {0, 1, 0}, {9999, 9998, 1}};
        for (int[] s : sides) {
            CardHall x = Check.hall(s[0], s[1], 50);
            Check.orders(x, "");
            Check.motion(x, 0, "say 1;");
            Check.amend(x, 0, "add 2;");
            Check.orders(x, "");
            for (int matter : new int[] {100, 0, 201}) {
                x.casts(0, matter, 1);
                x.casts(1, matter, 0);
                Check.due(21, s[0] + " to " + s[1] + " on " + matter, x.decide(matter), s[2]);
                Check.due(24, "how", x.how(matter), 2 - s[2]);
            }
        }
        CardHall x = Check.hall(5);
        Check.motion(x, 0, "say 1;");
        Check.due(21, "nobody has a voice", x.decide(0), 0);
        CardHall y = new CardHall();
        Check.orders(y, "");
        Check.orders(y, "");
        Check.due(21, "no affiliates at all", y.decide(201), 0);
        Check.due(23, "all of nobody", Check.row(y, 0, 4), 0);
    }

    /** "NONE: it isn't OPEN, no such one". */
    private static void whatCantBeDecided() {
        CardHall x = Check.hall(5);
        Check.orders(x, "");
        Check.motion(x, 0, "say 1;");
        Check.motion(x, 0, "say not 1;");
        Check.motion(x, 0, "say 2;");
        Check.motion(x, 0, "say 3;");
        Check.motion(x, 0, "say 4;");
        Check.amend(x, 1, "add 5;");
        x.composite(0b11000);
        pass(x, 0);
        x.decide(2);
        for (int m : new int[] {0, 1, 2, 3, 4, 100, 200}) {
            Check.due(21, "not open, " + m, x.decide(m), -1);
        }
        for (int m : new int[] {-1, 6, 24, 99, 101, 140, 199, 201, 210, 255, MIN, MAX, MIN + 1, 1 << 24, 300}) {
            Check.due(21, "no such one, " + m, x.decide(m), -1);
            Check.due(24, "no such one, " + m, x.how(m), -1);
        }
        Check.due(36, "rows", x.count(8), 2);
        Check.due(21, "the composite is open", x.decide(5), 0);
    }

    /** "DECIDED ... by what is known on the DAY at hand and the ORDERS IN FORCE". */
    private static void decidedAsKnownToday() {
        CardHall x = Check.hall(5, 4);
        Check.motion(x, 0, "say 1;");
        x.casts(0, 0, 0);
        x.casts(1, 0, 1);
        x.day(1000);
        x.heads(1, 6);
        x.dues(1, 60);
        Check.due(21, "of 4 to 5, 6 to 5 today", x.decide(0), 1);
        Check.due(23, "day", Check.row(x, 0, 1), 1000);
    }

    /** "Add: ... comes behind, if there is no LINE of N and fewer than 12 are". */
    private static void twelveLinesAreFull() {
        CardHall x = Check.hall(5);
        Check.motion(x, 0, says(1, 11, ""));
        Check.motion(x, 0, says(1, 12, ""));
        Check.amend(x, 0, "add not 20; add 21;");
        Check.amend(x, 1, "add 20; strike 6; add not 21; add 22; turn 12; turn 21;");
        pass(x, 100);
        Check.lines(21, x, 0, "1 2 3 4 5 6 7 8 9 10 11 -20@0");
        pass(x, 101);
        Check.lines(21, x, 1, "1 2 3 4 5 7 8 9 10 11 -12@1 21@1");
        Check.amend(x, 0, "strike 20; strike 1; add 1; add 20; add 2; add 21;");
        pass(x, 102);
        Check.lines(21, x, 0, "2 3 4 5 6 7 8 9 10 11 1@2 20@2");
        Check.amend(x, 0, "add 60;");
        pass(x, 103);
        Check.lines(21, x, 0, "2 3 4 5 6 7 8 9 10 11 1@2 20@2");
    }

    /** "A MOTION without LINES then is FALLEN." */
    private static void strikingAllTwelve() {
        CardHall x = Check.hall(5);
        Check.motion(x, 0, says(1, 12, " must"));
        Check.motion(x, 0, says(1, 12, ""));
        Check.amend(x, 0, "strike 1; strike 2; strike 3; strike 4; strike 5; strike 6;");
        Check.amend(x, 0, "strike 12; strike 11; strike 10; strike 9; strike 8; strike 7;");
        Check.amend(x, 0, "add 5;");
        pass(x, 100);
        Check.lines(21, x, 0, "7! 8! 9! 10! 11! 12!");
        Check.due(24, "open yet", x.how(0), 0);
        pass(x, 101);
        Check.lines(21, x, 0, "");
        Check.due(24, "fallen", x.how(0), 3);
        Check.due(24, "the amendment itself", x.how(101), 1);
        Check.due(24, "the open one", x.how(102), 3);
        Check.due(36, "nothing stands of it", x.count(11), 0);
        Check.due(24, "the like one is open", x.how(1), 0);
        Check.lines(21, x, 1, "1 2 3 4 5 6 7 8 9 10 11 12");
    }

    private static void theLastLine() {
        CardHall x = Check.hall(5);
        Check.motion(x, 0, "say 1;");
        Check.motion(x, 0, "say 1;");
        Check.motion(x, 0, "say 1;");
        Check.amend(x, 0, "strike 1; add 1;");
        Check.amend(x, 1, "strike 1; strike 1; turn 1;");
        Check.amend(x, 2, "strike 1;");
        pass(x, 100);
        Check.lines(21, x, 0, "1@0");
        Check.due(24, "it has a line again", x.how(0), 0);
        pass(x, 101);
        Check.due(24, "it has none", x.how(1), 3);
        Check.due(21, "lost", x.decide(102), 0);
        Check.due(24, "a lost amendment strikes nothing", x.how(2), 0);
        Check.lines(21, x, 2, "1");
    }

    /** "Strike: the LINE of N goes (others close up)", with all that they have. */
    private static void closingUp() {
        CardHall x = Check.hall(5);
        Check.motion(x, 0, "say 1; say not 2 must; say 3; say not 4 must;");
        Check.amend(x, 0, "add 5; turn 3;");
        Check.amend(x, 0, "add not 6; turn 4;");
        pass(x, 100);
        pass(x, 101);
        Check.lines(21, x, 0, "1 -2! -3@0 4!@1 5@0 -6@1");
        Check.amend(x, 0, "strike 1;");
        pass(x, 102);
        Check.lines(21, x, 0, "-2! -3@0 4!@1 5@0 -6@1");
        Check.amend(x, 0, "strike 3;");
        pass(x, 103);
        Check.lines(21, x, 0, "-2! 4!@1 5@0 -6@1");
        Check.amend(x, 0, "strike 6;");
        pass(x, 104);
        Check.lines(21, x, 0, "-2! 4!@1 5@0");
        Check.amend(x, 0, "strike 4; add 4; strike 60;");
        pass(x, 105);
        Check.lines(21, x, 0, "-2! 5@0 4@5");
    }

    /** "Turn: the LINE of N is its contrary (it stays must, and where it is)." */
    private static void turningStaysWhereItIs() {
        CardHall x = Check.hall(5);
        Check.motion(x, 0, "say 60 must; say not 1; say 30;");
        Check.amend(x, 0, "turn 60; turn 1; turn 59;");
        Check.amend(x, 0, "turn 60; turn 60; turn 1; turn 1; turn 1;");
        pass(x, 100);
        Check.lines(21, x, 0, "-60!@0 1@0 30");
        pass(x, 101);
        Check.lines(21, x, 0, "-60!@1 -1@1 30");
    }

    /** "Add: N, or its contrary, comes behind, if there is no LINE of N"; "what can't be is nothing". */
    private static void addingWhereAnNIs() {
        CardHall x = Check.hall(5);
        Check.motion(x, 0, "say 1; say not 60;");
        Check.amend(x, 0, "add 1; add not 1; add 60; add not 60; add 2; add not 2;");
        pass(x, 100);
        Check.lines(21, x, 0, "1 -60 2@0");
    }

    private static void otherMotionsStayAsTheyAre() {
        CardHall x = Check.hall(5);
        for (int m = 0; m < 24; m++) {
            Check.motion(x, 0, m == 1 ? says(21, 32, " must") : says(1 + m, 12 + m, ""));
        }
        Check.amend(x, 1, "strike 21; strike 32; turn 25;");
        Check.amend(x, 23, "strike 24; add 60; strike 35; add not 1;");
        pass(x, 100);
        pass(x, 101);
        Check.lines(21, x, 0, "1 2 3 4 5 6 7 8 9 10 11 12");
        Check.lines(21, x, 1, "22! 23! 24! -25!@0 26! 27! 28! 29! 30! 31!");
        Check.lines(21, x, 2, "3 4 5 6 7 8 9 10 11 12 13 14");
        Check.lines(21, x, 22, "23 24 25 26 27 28 29 30 31 32 33 34");
        Check.lines(21, x, 23, "25 26 27 28 29 30 31 32 33 34 60@1 -1@1");
        for (int m = 2; m < 23; m++) {
            Check.amend(x, m, "strike " + (m + 6) + "; strike " + (m + 12) + ";");
            pass(x, 100 + m);
        }
        for (int m = 2; m < 23; m++) {
            StringBuilder want = new StringBuilder();
            for (int n = m + 1; n < m + 12; n++) {
                want.append(n == m + 6 ? "" : (n > m + 1 ? " " : "") + n);
            }
            Check.lines(21, x, m, want.toString());
        }
        Check.lines(21, x, 23, "25 26 27 28 29 30 31 32 33 34 60@1 -1@1");
    }

    /** "AGAINST of a row of LINES: 1, if one of them is the contrary of what STANDS, else 0". */
    private static void againstByEitherSide() {
        String[] texts = {"say 1;", "say not 1;", "say 2;", "say not 2;", "say 3;", "say not 3;", "say 9; say not 1;",
            "say 2; say 9;", "say 1; say not 2;"};
        int[] against = {0, 1, 1, 0, 0, 0, 1, 1, 0};
        for (int i = 0; i < texts.length; i++) {
            CardHall x = Check.hall(5);
            Check.orders(x, "pass motion if yes > no and against = 0; pass amend if against = 1;");
            Check.motion(x, 0, "say 1; say not 2;");
            pass(x, 0);
            Check.motion(x, 0, texts[i]);
            Check.due(21, "against of " + texts[i], pass(x, 1), 1 - against[i]);
            Check.motion(x, 0, texts[i]);
            Check.amend(x, 2, "add 50;");
            Check.due(21, "with another line, " + texts[i], x.decide(100), against[i]);
        }
    }

    /** "... of an AMENDMENT: of the LINES with it DONE", of its own MOTION alone. */
    private static void againstOfTheLinesWithItDone() {
        CardHall x = Check.hall(5);
        Check.orders(x, "pass amend if against = 1;");
        Check.motion(x, 0, "say 1; say not 2;");
        pass(x, 0);
        Check.motion(x, 0, "say not 1; say 2; say 3;");
        Check.motion(x, 0, "say 5;");
        Check.motion(x, 0, says(3, 14, ""));
        Check.amend(x, 1, "strike 1;");
        Check.amend(x, 1, "strike 1; strike 2;");
        Check.amend(x, 1, "turn 1; turn 2;");
        Check.amend(x, 2, "add 6;");
        Check.amend(x, 3, "add not 1;");
        Check.amend(x, 3, "strike 14; add not 1;");
        Check.amend(x, 2, "strike 5;");
        int[] want = {1, 0, 0, 0, 0, 1, 0};
        for (int i = 0; i < want.length; i++) {
            Check.due(31, "the first round, " + i, x.would(100 + i, 0), want[i]);
        }
        for (int i = want.length - 1; i >= 0; i--) {
            Check.due(31, "the other way round, " + i, x.would(100 + i, 0), want[i]);
        }
        Check.lines(31, x, 1, "-1 2 3");
        CardHall y = Check.hall(5);
        Check.orders(y, "pass amend if yes > no and against = 0;");
        Check.motion(y, 0, "say 1; say 2;");
        pass(y, 0);
        Check.motion(y, 0, "say 3; say not 2; say not 1;");
        Check.amend(y, 1, "strike 1; strike 2;");
        Check.amend(y, 1, "add 4;");
        Check.due(21, "against for what would stay", pass(y, 101), 0);
        Check.due(21, "what is struck is not against", pass(y, 100), 1);
        Check.amend(y, 1, "add 4;");
        Check.due(21, "what was struck is not against", pass(y, 102), 1);
        Check.lines(21, y, 1, "3 4@2");
    }

    private static void againstOfEachNumber() {
        for (int n = 1; n <= 60; n++) {
            CardHall x = Check.hall(5);
            Check.orders(x, "pass motion if against = day;");
            Check.motion(x, 0, "say " + n + "; say not " + (n % 60 + 1) + ";");
            Check.due(21, "against of nothing", x.decide(0), 1);
            x.day(1);
            Check.motion(x, 0, "say not " + n + ";");
            Check.motion(x, 0, "say " + (n % 60 + 1) + ";");
            Check.motion(x, 0, "say " + n + "; say not " + (n % 60 + 1) + ";");
            Check.motion(x, 0, "say " + ((n + 1) % 60 + 1) + ";");
            Check.due(31, "the contrary of " + n, x.would(1, 0), 1);
            Check.due(31, "of what is denied", x.would(2, 0), 1);
            Check.due(31, "the same", x.would(3, 0), 0);
            Check.due(31, "another N", x.would(4, 0), 0);
        }
    }

    /** "Each other MOTION that is OPEN and has the contrary of one of them is FALLEN." */
    private static void onlyTheContraryFalls() {
        for (int n : new int[] {1, 2, 30, 59, 60}) {
            CardHall x = Check.hall(5);
            Check.motion(x, 0, says(1, 11, "") + (n > 11 ? "say " + n + ";" : ""));
            Check.motion(x, 0, "say 58; say not " + n + " must;");
            Check.motion(x, 0, "say " + n + ";");
            Check.motion(x, 0, "say not " + (13 + n % 13) + ";");
            Check.motion(x, 0, "say not " + n + ";");
            Check.due(21, "the contrary one is lost", x.decide(4), 0);
            pass(x, 0);
            int[] how = {1, 3, 0, 0, 2};
            for (int m = 0; m < how.length; m++) {
                Check.due(21, "how " + m + " behind " + n, x.how(m), how[m]);
            }
        }
    }

    private static void twentyThreeFall() {
        CardHall x = Check.hall(5);
        for (int m = 0; m < 24; m++) {
            Check.motion(x, 0, (m == 11 ? "say 1;" : "say not 1;") + "say " + (m + 2) + ";");
            Check.amend(x, m, "add 50;");
        }
        Check.due(36, "open", x.count(10), 24);
        pass(x, 11);
        for (int m = 0; m < 24; m++) {
            Check.due(21, "how " + m, x.how(m), m == 11 ? 1 : 3);
            Check.due(21, "its amendment", x.how(100 + m), 3);
        }
        Check.due(36, "open", x.count(10), 0);
        Check.due(22, "void", x.voids(0), 0);
        Check.due(36, "open again, one is lost", x.count(10), 23);
        for (int m = 0; m < 24; m++) {
            Check.due(22, "how " + m, x.how(m), m == 11 ? 2 : 0);
            Check.due(22, "its amendment", x.how(100 + m), m == 11 ? 3 : 0);
        }
    }

    /** "As a MOTION is PASSED, LOST, FALLEN or COMPOSED its OPEN AMENDMENTS are FALLEN." */
    private static void amendmentsFallWithTheirMotion() {
        CardHall x = Check.hall(5);
        String[] texts = {"say 1;", "say 2;", "say not 1;", "say 3;", "say 4;", "say 5;"};
        for (int m = 0; m < 6; m++) {
            Check.motion(x, 0, texts[m]);
            Check.amend(x, m, "add 40;");
            Check.amend(x, m, "add 41;");
            Check.amend(x, m, "add 42;");
            pass(x, 100 + m * 3);
            x.decide(101 + m * 3);
        }
        pass(x, 0);
        x.decide(1);
        x.composite(0b11000);
        int[] third = {3, 3, 3, 3, 3, 0};
        for (int m = 0; m < 6; m++) {
            Check.due(21, "passed stays passed, " + m, x.how(100 + m * 3), 1);
            Check.due(21, "lost stays lost, " + m, x.how(101 + m * 3), 2);
            Check.due(21, "open falls, " + m, x.how(102 + m * 3), third[m]);
        }
    }

    /** "WHAT STANDS: of each N nothing (at first), it, or its contrary." */
    private static void whatStandsIsReplaced() {
        CardHall x = Check.hall(5);
        String[] texts = {"say 1; say not 60;", "say not 1; say 60;", "say not 1; say 2;", "say 1; say not 2;"};
        int[][] stands = {{1, 0, -1}, {-1, 0, 1}, {-1, 1, 1}, {1, -1, 1}};
        int[] count = {2, 2, 3, 3};
        for (int i = 0; i < texts.length; i++) {
            Check.motion(x, 0, texts[i]);
            Check.due(21, texts[i], pass(x, i), 1);
            Check.due(26, "1", x.stands(1), stands[i][0]);
            Check.due(26, "2", x.stands(2), stands[i][1]);
            Check.due(26, "60", x.stands(60), stands[i][2]);
            Check.due(36, "stand", x.count(11), count[i]);
        }
        Check.motion(x, 0, "say 7;");
        x.decide(4);
        Check.due(26, "of a lost one nothing", x.stands(7), 0);
        Check.due(22, "as it was ahead, all void", x.voids(0), -1);
    }

    /** "ORDERS that pass are IN FORCE", those ahead stay PASSED. */
    private static void ordersOneAfterTheOther() {
        CardHall x = Check.hall(900);
        for (int i = 0; i < 10; i++) {
            Check.orders(x, "rate " + (10 + i * 10) + ";");
        }
        for (int i = 9; i >= 1; i--) {
            Check.due(21, "orders " + i, pass(x, 200 + i), 1);
            Check.due(36, "in force", x.count(7), i);
            Check.due(16, "paid", x.paid(0, 0), 9000 / (10 + i * 10));
        }
        for (int i = 0; i < 10; i++) {
            Check.due(24, "how " + i, x.how(200 + i), 1);
        }
    }

    /** "The CARD of an AFFILIATE that had a VOICE": its CARDS may be none. */
    private static void voidWithoutCards() {
        CardHall x = Check.hall(5, 0);
        Check.motion(x, 0, "say 1;");
        x.casts(0, 0, 1);
        x.casts(1, 0, 0);
        x.decide(0);
        Check.due(22, "of one without cards", x.voids(1), 1);
        Check.due(23, "void", Check.row(x, 0, 6), 1);
        Check.due(23, "all", Check.row(x, 0, 4), 5);
        Check.due(22, "it is void", x.voids(1), -1);
        Check.due(22, "the other", x.voids(0), 0);
        Check.due(23, "void", Check.row(x, 0, 6), 2);
        Check.due(23, "all", Check.row(x, 0, 4), 0);
    }

    /** "NONE: there is no such DECISION, it had no VOICE in it, or is VOID." */
    private static void voidWithoutVoice() {
        CardHall x = Check.hall(5, 5, 5, 5);
        none(22, "no decision", x.voids(0), x.voids(-1), x.voids(MIN), x.voids(MAX));
        Check.motion(x, 0, "say 1;");
        Check.motion(x, 0, "say 2;");
        x.casts(0, 0, 1);
        x.casts(1, 0, 2);
        x.mandate(1, 0, 1);
        x.casts(3, 0, 1);
        x.casts(3, 0, 3);
        x.casts(2, 1, 1);
        x.decide(0);
        none(22, "nothing cast, nothing told, taken back", x.voids(1), x.voids(2), x.voids(3));
        none(22, "no such affiliate", x.voids(-1), x.voids(4), x.voids(12), x.voids(32), x.voids(33), x.voids(MIN), x.voids(MAX));
        Check.due(23, "none is void", Check.row(x, 0, 6), 0);
        Check.due(22, "one that has", x.voids(0), 0);
        none(22, "once more", x.voids(0));
        Check.due(23, "one is void", Check.row(x, 0, 6), 1);
    }

    private static void allTwelveAreVoid() {
        CardHall x = Check.hall(1, 1, 1, 1, 1, 1, 1, 1, 1, 1, 1, 1);
        Check.motion(x, 0, "say 1;");
        for (int a = 0; a < 12; a++) {
            x.casts(a, 0, a % 3 == 2 ? 0 : 1);
        }
        Check.due(21, "8 to 4", x.decide(0), 1);
        int yes = 8;
        int no = 4;
        for (int a = 11; a >= 0; a--) {
            yes -= a % 3 == 2 ? 0 : 1;
            no -= a % 3 == 2 ? 1 : 0;
            Check.due(22, yes + " to " + no, x.voids(a), yes > no ? 1 : 0);
            Check.due(22, "how", x.how(0), yes > no ? 1 : 2);
            Check.due(22, "stands", x.stands(1), yes > no ? 1 : 0);
            Check.due(23, "yes", Check.row(x, 0, 2), yes);
            Check.due(23, "no", Check.row(x, 0, 3), no);
            Check.due(23, "all", Check.row(x, 0, 4), yes + no);
            Check.due(23, "void", Check.row(x, 0, 6), 12 - a);
        }
        Check.due(36, "one row", x.count(8), 1);
        for (int a = 0; a < 12; a++) {
            none(22, "all are void", x.voids(a));
        }
        Check.motion(x, 0, "say 2;");
        x.casts(0, 1, 1);
        Check.due(21, "nobody is void in the next", x.decide(1), 1);
        Check.due(23, "all", Check.row(x, 1, 4), 12);
        Check.due(23, "void", Check.row(x, 1, 6), 0);
        Check.due(22, "it may be again", x.voids(0), 0);
    }

    /** "All MATTERS, LINES, WHAT STANDS and ORDERS IN FORCE are as they were ahead of that DECISION". */
    private static void voidAsItWasAheadOfIt() {
        CardHall x = Check.hall(5);
        Check.motion(x, 0, "say not 1; say 2; say not 60;");
        pass(x, 0);
        Check.motion(x, 0, "say 1; say not 2; say 3; say 60;");
        Check.motion(x, 0, "say not 3;");
        Check.amend(x, 1, "add 4;");
        Check.amend(x, 2, "add 4;");
        pass(x, 1);
        int[] then = {1, -1, 1, 1};
        int[] ahead = {-1, 1, 0, -1};
        int[] n = {1, 2, 3, 60};
        for (int i = 0; i < 4; i++) {
            Check.due(26, "then " + n[i], x.stands(n[i]), then[i]);
        }
        Check.due(22, "void", x.voids(0), 0);
        for (int i = 0; i < 4; i++) {
            Check.due(26, "ahead " + n[i], x.stands(n[i]), ahead[i]);
        }
        Check.due(36, "stand", x.count(11), 3);
        Check.due(24, "it is lost", x.how(1), 2);
        Check.due(24, "its amendment is fallen", x.how(100), 3);
        Check.due(24, "the other is open", x.how(2), 0);
        Check.due(24, "its amendment too", x.how(101), 0);
        Check.due(24, "the earlier one is passed", x.how(0), 1);
    }

    private static void voidOfOrdersAndAmendments() {
        CardHall x = Check.hall(10, 4);
        Check.orders(x, "rate 10;");
        Check.orders(x, "rate 5; pass order if yes < no;");
        Check.motion(x, 0, "say 1; say 2 must;");
        x.casts(0, 201, 1);
        x.casts(1, 201, 0);
        Check.due(21, "passed", x.decide(201), 1);
        Check.due(16, "paid by the new rate", x.paid(1, 0), 4);
        Check.due(22, "counted by the rules ahead of it", x.voids(0), 0);
        Check.due(23, "no by the rate ahead of it", Check.row(x, 0, 3), 4);
        Check.due(36, "in force", x.count(7), 0);
        Check.amend(x, 0, "strike 1; turn 2; add not 3;");
        x.casts(0, 100, 0);
        x.casts(1, 100, 1);
        x.decide(100);
        Check.lines(22, x, 0, "1 2!");
        Check.due(22, "void, so it passes", x.voids(0), 1);
        Check.lines(22, x, 0, "-2!@0 -3@0");
        Check.due(22, "void as well", x.voids(1), 0);
        Check.lines(22, x, 0, "1 2!");
        Check.due(24, "lost", x.how(100), 2);
    }

    private static void voidOfTheLatestAlone() {
        CardHall x = Check.hall(5, 4);
        Check.motion(x, 0, "say 1;");
        Check.motion(x, 0, "say 2;");
        x.casts(0, 0, 1);
        x.casts(1, 1, 1);
        x.decide(0);
        Check.due(22, "void in the first", x.voids(0), 0);
        x.decide(1);
        none(22, "it had no voice in the second", x.voids(0));
        Check.due(22, "the other had", x.voids(1), 0);
        Check.due(23, "the first row", Check.row(x, 0, 6), 1);
        Check.due(23, "the second row", Check.row(x, 1, 6), 1);
        Check.due(24, "the first stays as it was counted anew", x.how(0), 2);
        Check.due(36, "rows", x.count(8), 2);
    }

    private static CardHall decided() {
        CardHall x = Check.hall(5, 4);
        for (int m = 0; m < 4; m++) {
            Check.motion(x, 0, "say " + (m + 1) + ";");
        }
        x.casts(0, 0, 1);
        x.decide(0);
        return x;
    }

    /** "... as long as neither a MATTER was DECIDED nor COMPOSED since, and no MOTION, AMENDMENT or ORDERS came". */
    private static void voidIsOverAsSomethingComes() {
        CardHall x = decided();
        Check.due(22, "at once", x.voids(0), 0);
        x = decided();
        Check.due(21, "one that nobody has a voice in", x.decide(1), 0);
        none(22, "decided since", x.voids(0));
        x = decided();
        Check.due(28, "composed", x.composite(6), 4);
        none(22, "composed since", x.voids(0));
        x = decided();
        Check.due(13, "a motion", Check.motion(x, 0, "say 9;"), 4);
        none(22, "came since", x.voids(0));
        x = decided();
        Check.due(14, "an amendment", Check.amend(x, 1, "add 9;"), 0);
        none(22, "came since", x.voids(0));
        x = decided();
        Check.due(12, "orders", Check.orders(x, ""), 0);
        none(22, "came since", x.voids(0));
        x.casts(0, 1, 1);
        x.decide(1);
        Check.due(22, "a new one can be", x.voids(0), 0);
    }

    private static void voidGoesOnAsNothingComes() {
        CardHall x = decided();
        x.affiliate(3);
        x.branch(2, 5);
        x.heads(1, 9);
        x.dues(1, 9);
        x.mandate(1, 1, 1);
        x.casts(1, 1, 1);
        x.worth(0, 1, 9);
        x.closing(0);
        x.day(5);
        x.feed(1, 2, 3, 4, 5);
        x.end(0);
        Check.due(21, "refused", x.decide(0), -1);
        Check.due(28, "refused", x.composite(3), -1);
        Check.due(13, "late", Check.motion(x, 0, "say 9;"), -6);
        Check.due(13, "a fault", Check.motion(x, 0, "say 0;"), -3);
        Check.due(14, "a fault", Check.amend(x, 1, ""), -2);
        Check.due(14, "refused", x.amend(0), -1);
        Check.due(12, "a fault", Check.orders(x, "rate 0;"), -3);
        x.lost(6);
        x.group(6, 1);
        x.best(6, 0, 0);
        x.deal(0);
        x.would(1, 3);
        none(22, "refused", x.voids(1), x.voids(9));
        Check.due(22, "it goes on", x.voids(0), 0);
    }

    /** "... by what was known on its DAY". */
    private static void voidOnALaterDay() {
        CardHall x = Check.hall(5, 4, 3);
        Check.motion(x, 0, "say 1;");
        x.casts(0, 0, 1);
        x.casts(1, 0, 0);
        x.casts(2, 0, 0);
        x.day(1000);
        Check.due(21, "5 to 7", x.decide(0), 0);
        x.day(1);
        x.heads(0, 1);
        x.heads(2, 9999);
        x.dues(2, 99999);
        Check.due(22, "5 to 3", x.voids(1), 1);
        Check.due(23, "yes", Check.row(x, 0, 2), 5);
        Check.due(23, "no", Check.row(x, 0, 3), 3);
        Check.due(23, "day", Check.row(x, 0, 1), 1000);
        Check.due(22, "0 to 3", x.voids(0), 0);
        Check.due(22, "0 to 0", x.voids(2), 0);
        Check.due(23, "all", Check.row(x, 0, 4), 0);
    }

    /** "ROWS of DECISIONS ...: MATTER, DAY, YES, NO, ALL, whether it PASSED, how many were VOID". */
    private static void rowsOfEachKind() {
        CardHall x = EdgesOfTellingTest.fullHall();
        int[] matters = {139, 100, 23, 0, 209, 201};
        for (int k = 0; k < matters.length; k++) {
            x.casts(0, matters[k], k % 2);
            Check.due(21, "decide " + matters[k], x.decide(matters[k]), k % 2);
            int[] want = {matters[k], k * 7, k % 2 * 5, 5 - k % 2 * 5, 22, k % 2, 0};
            for (int what = 0; what < 7; what++) {
                Check.due(23, "row " + k + " what " + what, Check.row(x, k, what), want[what]);
            }
            x.day(7);
        }
        Check.due(36, "rows", x.count(8), 6);
    }

    /** "At most 100": 40 AMENDMENTS, 24 MOTIONS and 9 ORDERS are all that can be DECIDED, so 73 ROWS are the most there are. */
    private static void allRowsThereCanBe() {
        CardHall x = EdgesOfTellingTest.fullHall();
        int rows = 0;
        for (int matter = 209; matter >= 0; matter--) {
            if (x.how(matter) == 0 && matter >= 100) {
                x.casts(0, matter, matter % 2);
                Check.due(21, "decide " + matter, x.decide(matter), matter % 2);
                rows++;
            }
        }
        for (int m = 0; m < 24; m++) {
            x.casts(0, m, 1);
            Check.due(21, "decide " + m, x.decide(m), 1);
            rows++;
        }
        Check.due(36, "rows", x.count(8), 73);
        Check.due(36, "rows", rows, 73);
        Check.due(23, "the last", Check.row(x, 72, 0), 23);
        Check.due(23, "behind the last", Check.row(x, 73, 0), -99);
        Check.due(23, "the first", Check.row(x, 0, 0), 209);
        Check.due(22, "void in the last", x.voids(0), 0);
        Check.due(36, "as many rows", x.count(8), 73);
        Check.due(23, "void", Check.row(x, 72, 6), 1);
    }

    /** "NoSuchElementException: there is none such." */
    private static void rowBounds() {
        CardHall x = Check.hall(5);
        for (int k = 0; k < 3; k++) {
            Check.due(23, "not there yet", Check.row(x, k, 0), -99);
            Check.motion(x, 0, "say 1;");
            x.decide(k);
            Check.due(23, "matter", Check.row(x, k, 0), k);
        }
        for (int k : new int[] {-1, 3, 100, MIN, MAX}) {
            for (int what = 0; what < 7; what++) {
                Check.due(23, "no row " + k, Check.row(x, k, what), -99);
            }
        }
        for (int what : new int[] {-1, 7, MIN, MAX}) {
            for (int k = 0; k < 3; k++) {
                Check.due(23, "no what " + what, Check.row(x, k, what), -99);
            }
        }
        Check.due(23, "the last of the last", Check.row(x, 2, 6), 0);
    }

    private static void aSumAtTheBoundInARow() {
        CardHall x = new CardHall();
        for (int a = 0; a < 3; a++) {
            x.affiliate(a);
        }
        Check.orders(x, "cards 1000*1000*1000-section;");
        Check.motion(x, 0, "say 1;");
        x.casts(0, 0, 1);
        x.casts(1, 0, 1);
        x.casts(2, 0, 0);
        Check.due(21, "cut to 1000000000", x.decide(0), 1);
        int[] want = {0, 0, 1000000000, 999999998, 1000000000, 1, 0};
        for (int what = 0; what < 7; what++) {
            Check.due(23, "what " + what, Check.row(x, 0, what), want[what]);
        }
        Check.due(22, "999999999 to 999999998", x.voids(0), 1);
        Check.due(23, "yes", Check.row(x, 0, 2), 999999999);
        Check.due(23, "all", Check.row(x, 0, 4), 1000000000);
        Check.due(22, "0 to 999999998", x.voids(1), 0);
        Check.due(23, "all", Check.row(x, 0, 4), 999999998);
    }

    /** "How a MATTER is (0 to 4). NONE: no such one." */
    private static void howBounds() {
        CardHall x = Check.hall(5);
        none(24, "nothing is there", x.how(0), x.how(23), x.how(100), x.how(139), x.how(200), x.how(209));
        Check.motion(x, 0, "say 1;");
        Check.amend(x, 0, "add 2;");
        Check.orders(x, "");
        Check.due(24, "the first of each", x.how(0) * 100 + x.how(100) * 10 + x.how(200), 1);
        none(24, "no second", x.how(1), x.how(101), x.how(201));
        none(24, "beside them", x.how(-1), x.how(99), x.how(199), x.how(24), x.how(140), x.how(210), x.how(MIN), x.how(MAX));
    }

    /** "0 for what 0, NONE for others: there is none such." */
    private static void lineBounds() {
        CardHall x = Check.hall(5);
        Check.motion(x, 0, says(49, 60, " must"));
        Check.motion(x, 0, "say not 60;");
        for (int i = 0; i < 12; i++) {
            Check.due(25, "n of " + i, x.line(0, i, 0), 49 + i);
            Check.due(25, "must of " + i, x.line(0, i, 1), 1);
            Check.due(25, "by of " + i, x.line(0, i, 2), -1);
        }
        Check.due(25, "below 0 its contrary", x.line(1, 0, 0), -60);
        int[][] noLines = {{0, 12}, {0, 13}, {0, -1}, {0, MIN}, {0, MAX}, {1, 1}, {1, -1}, {1, 12}, {2, 0}, {-1, 0}, {23, 0},
            {24, 0}, {100, 0}, {MIN, 0}, {MAX, 0}};
        for (int[] l : noLines) {
            Check.due(25, "n of no line", x.line(l[0], l[1], 0), 0);
            none(25, "no line", x.line(l[0], l[1], 1), x.line(l[0], l[1], 2), x.line(l[0], l[1], 3), x.line(l[0], l[1], -1));
        }
        none(25, "no such what", x.line(0, 0, -1), x.line(0, 0, 3), x.line(0, 0, MIN), x.line(0, 0, MAX));
    }

    /** "NONE * 2: no such N." */
    private static void standsBounds() {
        CardHall x = Check.hall(5);
        Check.motion(x, 0, "say 1; say not 60;");
        for (int n : new int[] {0, 61, -1, -60, 63, 64, 65, MIN, MAX}) {
            Check.due(26, "no such n " + n, x.stands(n), -2);
        }
        Check.due(26, "nothing", x.stands(1) * 10 + x.stands(60), 0);
        pass(x, 0);
        Check.due(26, "the least", x.stands(1), 1);
        Check.due(26, "the greatest", x.stands(60), -1);
        Check.due(26, "between", x.stands(2) * 10 + x.stands(59), 0);
        for (int n : new int[] {0, 61, -1, -60, 63, 64, 65, MIN, MAX}) {
            Check.due(26, "no such n " + n, x.stands(n), -2);
        }
    }
}
