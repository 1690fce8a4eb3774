/** Promises 21 to 26: DECISIONS, what falls, VOID cards, ROWS, LINES and WHAT STANDS. */
public final class DecidingTest {
    public static void main(String[] args) {
        passing();
        kindsAndNames();
        falling();
        amendmentsDone();
        againstOfAmendments();
        ordersVoted();
        voids();
        voidsGoBackWhole();
        voidsEnd();
        voidsByTheirDay();
        rows();
        hundredRows();
        linesAndStands();
        theFirstFallsToo();
        ordersThatPass();
        noLineAheadOfTheFirst();
        Check.finish("DecidingTest");
    }

    private static void passing() {
        CardHall x = Check.hall(10, 10, 5);
        Check.due(21, "no such matter", x.decide(0), -1);
        Check.due(21, "no such matter", x.decide(-1), -1);
        Check.due(21, "no such matter", x.decide(1 << 30), -1);
        Check.motion(x, 0, "say 1;");
        Check.motion(x, 0, "say 2;");
        x.casts(0, 0, 1);
        x.casts(1, 0, 0);
        Check.due(21, "as many for as against", x.decide(0), 0);
        Check.due(24, "how", x.how(0), 2);
        Check.due(21, "once more", x.decide(0), -1);
        x.casts(0, 1, 1);
        x.casts(1, 1, 0);
        x.casts(2, 1, 1);
        Check.due(21, "more for", x.decide(1), 1);
        Check.due(24, "how", x.how(1), 1);
        Check.due(26, "stands", x.stands(2), 1);
        Check.due(21, "once more", x.decide(1), -1);
        Check.due(24, "how(2)", x.how(2), -1);
        Check.due(24, "how(-1)", x.how(-1), -1);
        Check.due(24, "how(100)", x.how(100), -1);
        Check.due(24, "how(210)", x.how(210), -1);
    }

    private static void kindsAndNames() {
        CardHall x = Check.hall(10, 10, 5);
        Check.orders(x, "pass motion if yes = 15 and no = 10 and all = 25 and sections = 2 and against = 0 and day = 3;"
            + "pass amend if yes > 100; pass order if 1 = 1;");
        x.day(3);
        Check.motion(x, 0, "say 1;");
        x.casts(0, 0, 1);
        x.casts(1, 0, 0);
        x.casts(2, 0, 1);
        Check.amend(x, 0, "add 2;");
        x.casts(0, 100, 1);
        Check.orders(x, "");
        Check.due(21, "an amendment", x.decide(100), 0);
        Check.due(24, "how", x.how(100), 2);
        Check.due(21, "a motion", x.decide(0), 1);
        Check.due(21, "orders", x.decide(201), 1);
        Check.due(36, "in force", x.count(7), 1);
        Check.motion(x, 0, "say not 1;");
        x.casts(0, 1, 1);
        Check.due(21, "by the new orders", x.decide(1), 1);
        Check.due(26, "stands", x.stands(1), -1);
    }

    private static void falling() {
        CardHall x = Check.hall(10);
        Check.motion(x, 0, "say 1; say not 2;");
        Check.motion(x, 0, "say 2;");
        Check.motion(x, 0, "say 1;");
        Check.motion(x, 0, "say 3; say not 1;");
        Check.motion(x, 0, "say not 1;");
        Check.amend(x, 0, "add 5;");
        Check.amend(x, 1, "add 5;");
        Check.amend(x, 2, "add 5;");
        Check.amend(x, 4, "add 5;");
        x.decide(4);
        Check.due(24, "an amendment on a lost one", x.how(103), 3);
        x.casts(0, 0, 1);
        Check.due(21, "decide", x.decide(0), 1);
        int[] want = {1, 3, 0, 3, 2};
        for (int m = 0; m < want.length; m++) {
            Check.due(21, "how " + m, x.how(m), want[m]);
        }
        Check.due(21, "amendments of the passed", x.how(100), 3);
        Check.due(21, "amendments of the fallen", x.how(101), 3);
        Check.due(21, "amendments of the open", x.how(102), 0);
        Check.due(21, "a fallen one", x.decide(1), -1);
        Check.due(21, "a fallen amendment", x.decide(100), -1);
        Check.due(36, "open", x.count(10), 1);
    }

    private static void amendmentsDone() {
        CardHall x = Check.hall(10);
        Check.motion(x, 0, "say 1 must; say 2; say not 3; say 4 must;");
        Check.amend(x, 0, "strike 2; add not 7; turn 4; turn 3; add 1; strike 9;");
        Check.amend(x, 0, "turn 7; add 2; turn 9;");
        Check.amend(x, 0, "strike 4;");
        Check.lines(25, x, 0, "1! 2 -3 4!");
        x.casts(0, 100, 1);
        Check.due(21, "amendment", x.decide(100), 1);
        Check.lines(21, x, 0, "1! 3@0 -4!@0 -7@0");
        Check.due(24, "others stay open", x.how(102), 0);
        x.casts(0, 101, 1);
        x.decide(101);
        Check.lines(21, x, 0, "1! 3@0 -4!@0 7@1 2@1");
        Check.due(21, "a lost one is not done", x.decide(102), 0);
        Check.lines(21, x, 0, "1! 3@0 -4!@0 7@1 2@1");
        Check.amend(x, 0, "strike 1; strike 3; strike 4; strike 7; strike 2;");
        Check.amend(x, 0, "add 1;");
        x.casts(0, 103, 1);
        x.decide(103);
        Check.lines(21, x, 0, "");
        Check.due(21, "a motion without lines", x.how(0), 3);
        Check.due(21, "its amendments", x.how(104), 3);
        Check.due(21, "the amendment itself", x.how(103), 1);

        StringBuilder twelve = new StringBuilder();
        for (int i = 1; i <= 12; i++) {
            twelve.append("say ").append(i).append(";");
        }
        int m = Check.motion(x, 0, twelve.toString());
        Check.amend(x, m, "add 20; strike 1; add not 21; add 22;");
        x.casts(0, 105, 1);
        x.decide(105);
        Check.lines(21, x, m, "2 3 4 5 6 7 8 9 10 11 12 -21@5");
    }

    private static void againstOfAmendments() {
        CardHall x = Check.hall(10);
        Check.orders(x, "pass amend if against = 1; pass motion if against = 0 and yes > 0; pass order if against = 0;");
        Check.motion(x, 0, "say 1; say not 2;");
        Check.motion(x, 0, "say 3;");
        x.casts(0, 0, 1);
        x.decide(0);
        Check.amend(x, 1, "add 1; add not 2;");
        Check.amend(x, 1, "add not 1; turn 1;");
        Check.amend(x, 1, "add 2; strike 2;");
        Check.amend(x, 1, "add 1; turn 1;");
        Check.due(21, "not against", x.decide(100), 0);
        Check.due(21, "turned twice", x.decide(101), 0);
        Check.due(21, "struck again", x.decide(102), 0);
        Check.lines(21, x, 1, "3");
        Check.due(21, "against", x.decide(103), 1);
        Check.lines(21, x, 1, "3 -1@3");
        x.casts(0, 1, 1);
        Check.due(21, "a motion against", x.decide(1), 0);
        Check.orders(x, "");
        Check.due(21, "orders are never against", x.decide(201), 1);
        Check.motion(x, 0, "say not 1; say 2; say 4;");
        x.casts(0, 2, 1);
        Check.due(21, "what stands can be turned", x.decide(2), 1);
        Check.due(26, "stands", x.stands(1), -1);
        Check.due(26, "stands", x.stands(2), 1);
        Check.due(26, "stands", x.stands(4), 1);
        Check.due(36, "stand", x.count(11), 3);
    }

    private static void ordersVoted() {
        CardHall x = Check.hall(10);
        Check.orders(x, "rate 5;");
        Check.orders(x, "rate 20;");
        Check.orders(x, "rate 50;");
        Check.due(24, "how", x.how(200), 1);
        Check.due(24, "how", x.how(201), 0);
        Check.due(21, "orders in force", x.decide(200), -1);
        x.casts(0, 201, 0);
        Check.due(21, "lost", x.decide(201), 0);
        Check.due(36, "in force", x.count(7), 0);
        x.casts(0, 202, 1);
        Check.due(21, "passed", x.decide(202), 1);
        Check.due(36, "in force", x.count(7), 2);
        Check.due(24, "the former", x.how(200), 1);
        Check.due(16, "paid", x.paid(0, 0), 2);
        Check.due(22, "void", x.voids(0), 0);
        Check.due(22, "in force as before", x.count(7), 0);
        Check.due(22, "paid as before", x.paid(0, 0), 10);
    }

    private static void voids() {
        CardHall x = Check.hall(10, 8, 4, 1);
        Check.due(22, "no decision", x.voids(0), -1);
        Check.motion(x, 0, "say 1;");
        Check.motion(x, 0, "say not 1;");
        x.casts(0, 0, 1);
        x.mandate(1, 0, 0);
        x.casts(2, 0, 0);
        x.casts(3, 0, 2);
        Check.due(21, "decide", x.decide(0), 0);
        Check.due(22, "no voice", x.voids(3), -1);
        Check.due(22, "no affiliate", x.voids(4), -1);
        Check.due(22, "no affiliate", x.voids(-1), -1);
        Check.due(22, "no affiliate", x.voids(32), -1);
        Check.due(22, "one void", x.voids(1), 1);
        Check.due(22, "passed", x.how(0), 1);
        Check.due(22, "fallen", x.how(1), 3);
        Check.due(22, "row", Check.row(x, 0, 3), 4);
        Check.due(22, "row", Check.row(x, 0, 4), 15);
        Check.due(22, "twice", x.voids(1), -1);
        Check.due(22, "another", x.voids(0), 0);
        Check.due(22, "lost again", x.how(0), 2);
        Check.due(22, "open again", x.how(1), 0);
        Check.due(22, "stands", x.stands(1), 0);
        Check.due(22, "void ones", Check.row(x, 0, 6), 2);
        Check.due(22, "yes", Check.row(x, 0, 2), 0);
        Check.due(22, "all", Check.row(x, 0, 4), 5);
        Check.due(22, "rows", x.count(8), 1);
    }

    private static void voidsGoBackWhole() {
        CardHall x = Check.hall(10, 4);
        Check.motion(x, 0, "say 1; say 2 must;");
        Check.amend(x, 0, "strike 1; turn 2;");
        Check.amend(x, 0, "strike 1; strike 2;");
        x.casts(0, 100, 1);
        x.casts(1, 100, 0);
        x.decide(100);
        Check.lines(22, x, 0, "-2!@0");
        Check.due(22, "void", x.voids(0), 0);
        Check.lines(22, x, 0, "1 2!");
        x.casts(0, 101, 1);
        x.decide(101);
        Check.due(22, "fallen", x.how(0), 3);
        Check.due(22, "void", x.voids(0), 0);
        Check.due(22, "open again", x.how(0), 0);
        Check.lines(22, x, 0, "1 2!");
        Check.due(22, "the earlier decision stays", x.how(100), 2);
        x.casts(0, 0, 1);
        x.worth(0, 0, 5);
        x.decide(0);
        x.closing(3);
        x.worth(0, 0, 7);
        Check.due(22, "void", x.voids(0), 0);
        Check.due(22, "nothing stands", x.count(11), 0);
    }

    private static CardHall decided() {
        CardHall x = Check.hall(10, 4);
        Check.motion(x, 0, "say 1;");
        Check.motion(x, 0, "say 2;");
        Check.motion(x, 0, "say 3;");
        x.casts(0, 0, 1);
        x.casts(0, 1, 1);
        x.decide(0);
        return x;
    }

    private static void voidsEnd() {
        CardHall x = decided();
        x.day(3);
        x.heads(1, 3);
        Check.motion(x, 0, "say 0;");
        Check.amend(x, 1, "add");
        Check.orders(x, "rate;");
        x.composite(1);
        x.decide(0);
        Check.due(22, "what did not come ends nothing", x.voids(0), 0);
        x = decided();
        x.decide(1);
        Check.due(22, "of the latest alone", x.voids(0), 0);
        Check.due(22, "the first stays", x.how(0), 1);
        x = decided();
        Check.motion(x, 0, "say 5;");
        Check.due(22, "behind a motion", x.voids(0), -1);
        x = decided();
        Check.amend(x, 1, "add 5;");
        Check.due(22, "behind an amendment", x.voids(0), -1);
        x = decided();
        Check.orders(x, "");
        Check.due(22, "behind orders", x.voids(0), -1);
        x = decided();
        x.composite(6);
        Check.due(22, "behind a composite", x.voids(0), -1);
        x = decided();
        x.closing(0);
        x.day(1);
        Check.due(22, "late", Check.motion(x, 0, "say 5;"), -6);
        Check.due(22, "behind one that was not taken", x.voids(0), 0);
    }

    private static void voidsByTheirDay() {
        CardHall x = Check.hall(10, 4, 5);
        Check.orders(x, "pass motion if yes > no and day = 0;");
        Check.motion(x, 0, "say 1;");
        x.mandate(0, 0, 1);
        x.mandate(1, 0, 1);
        x.mandate(2, 0, 0);
        x.decide(0);
        x.day(2);
        x.heads(2, 1);
        x.mandate(0, 0, 2);
        x.mandate(1, 0, 0);
        Check.due(22, "by what was known", x.voids(0), 0);
        Check.due(22, "yes", Check.row(x, 0, 2), 4);
        Check.due(22, "no", Check.row(x, 0, 3), 5);
        Check.due(22, "all", Check.row(x, 0, 4), 9);
        Check.due(22, "day", Check.row(x, 0, 1), 0);
        Check.due(22, "the day in pass", x.voids(2), 1);
        CardHall y = Check.hall(10, 4);
        Check.motion(y, 0, "say 1;");
        Check.motion(y, 0, "say 2;");
        y.day(1);
        y.decide(1);
        y.day(1);
        y.casts(0, 0, 1);
        y.casts(1, 0, 0);
        y.decide(0);
        y.day(1);
        y.heads(1, 0);
        Check.due(22, "by the day of the latest", y.voids(0), 0);
        Check.due(22, "its no", Check.row(y, 1, 3), 4);
        Check.due(22, "its day", Check.row(y, 1, 1), 2);
        Check.due(22, "the row before", Check.row(y, 0, 0), 1);
    }

    private static void rows() {
        CardHall x = Check.hall(10, 4);
        x.day(3);
        Check.orders(x, "");
        Check.motion(x, 0, "say 1;");
        Check.amend(x, 0, "add 2;");
        x.casts(0, 100, 1);
        x.casts(1, 100, 0);
        x.decide(100);
        x.day(2);
        x.casts(1, 0, 0);
        x.decide(0);
        int[][] want = {{100, 3, 10, 4, 14, 1, 0}, {0, 5, 0, 4, 14, 0, 0}};
        for (int k = 0; k < 2; k++) {
            for (int what = 0; what < 7; what++) {
                Check.due(23, "row " + k + " " + what, Check.row(x, k, what), want[k][what]);
            }
        }
        Check.due(23, "row(2, 0)", Check.row(x, 2, 0), -99);
        Check.due(23, "row(-1, 0)", Check.row(x, -1, 0), -99);
        Check.due(23, "row(0, 7)", Check.row(x, 0, 7), -99);
        Check.due(23, "row(0, -1)", Check.row(x, 0, -1), -99);
    }

    private static void hundredRows() {
        // 24 MOTIONS, 40 AMENDMENTS and 9 ORDERS are 73 matters to decide: 100 ROWS are never reached
        // without a MATTER that is decided twice, which none is.
        CardHall x = Check.hall(10);
        int rows = 0;
        for (int i = 0; i < 10; i++) {
            Check.orders(x, "");
            rows += x.decide(200 + i) == -1 ? 0 : 1;
        }
        for (int i = 0; i < 24; i++) {
            Check.motion(x, 0, "say 1;");
            for (int k = 0; k < 2; k++) {
                int a = Check.amend(x, i, "add 2;");
                rows += a < 0 || x.decide(100 + a) == -1 ? 0 : 1;
            }
            rows += x.decide(i) == -1 ? 0 : 1;
        }
        Check.due(21, "rows", x.count(8), rows);
        Check.due(21, "rows", rows, 73);
        Check.due(23, "the last row", Check.row(x, 72, 0), 23);
    }

    private static void linesAndStands() {
        CardHall x = Check.hall(10);
        Check.motion(x, 0, "say not 60 must; say 1;");
        Check.due(25, "N", x.line(0, 0, 0), -60);
        Check.due(25, "must", x.line(0, 0, 1), 1);
        Check.due(25, "by", x.line(0, 0, 2), -1);
        Check.due(25, "what 3", x.line(0, 0, 3), -1);
        Check.due(25, "what -1", x.line(0, 0, -1), -1);
        Check.due(25, "no line", x.line(0, 2, 0), 0);
        Check.due(25, "no line", x.line(0, 2, 1), -1);
        Check.due(25, "no line", x.line(0, 2, 2), -1);
        Check.due(25, "no line", x.line(0, -1, 0), 0);
        Check.due(25, "no motion", x.line(1, 0, 0), 0);
        Check.due(25, "no motion", x.line(1, 0, 1), -1);
        Check.due(25, "no motion", x.line(-1, 0, 0), 0);
        Check.due(25, "no motion", x.line(24, 0, 0), 0);
        x.casts(0, 0, 1);
        x.decide(0);
        Check.due(26, "stands(60)", x.stands(60), -1);
        Check.due(26, "stands(1)", x.stands(1), 1);
        Check.due(26, "stands(2)", x.stands(2), 0);
        Check.due(26, "stands(0)", x.stands(0), -2);
        Check.due(26, "stands(61)", x.stands(61), -2);
        Check.due(26, "stands(-1)", x.stands(-1), -2);
        Check.due(26, "stands(64)", x.stands(64), -2);
    }

    private static void theFirstFallsToo() {
        CardHall x = Check.hall(10);
        Check.motion(x, 0, "say 1;");
        Check.motion(x, 0, "say not 1;");
        Check.amend(x, 0, "add 2;");
        x.casts(0, 1, 1);
        Check.due(21, "passed", x.decide(1), 1);
        Check.due(24, "the contrary one", x.how(0), 3);
        Check.due(24, "its amendment", x.how(100), 3);
    }

    private static void ordersThatPass() {
        CardHall x = Check.hall(10);
        Check.orders(x, "");
        Check.orders(x, "rate 20;");
        Check.orders(x, "rate 30;");
        x.casts(0, 201, 1);
        x.decide(201);
        Check.due(24, "passed", x.how(201), 1);
        Check.due(24, "still open", x.how(202), 0);
        x.casts(0, 202, 0);
        x.decide(202);
        Check.due(24, "lost", x.how(202), 2);
        Check.due(36, "in force", x.count(7), 1);
    }

    private static void noLineAheadOfTheFirst() {
        CardHall x = Check.hall(10);
        StringBuilder twelve = new StringBuilder();
        for (int n = 1; n <= 12; n++) {
            twelve.append("say ").append(n).append(" must;");
        }
        Check.motion(x, 0, twelve.toString());
        Check.motion(x, 0, "say 20;");
        for (int i = -1; i <= 12; i += 13) {
            Check.due(25, "n of line " + i, x.line(1, i, 0), 0);
            Check.due(25, "must of line " + i, x.line(1, i, 1), -1);
            Check.due(25, "by of line " + i, x.line(1, i, 2), -1);
        }
    }
}
