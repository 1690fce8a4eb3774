/** Promises 10 to 15 at their edges: the TAPE, TOKENS, FAULTS and where they are, what a text may hold at most. */
public final class EdgesOfTextsTest {
    private static final int MIN = Integer.MIN_VALUE;
    private static final int MAX = Integer.MAX_VALUE;
    private static final int IN_ORDERS = 0;
    private static final int IN_MOTION = 1;
    private static final int IN_AMENDMENT = 2;

    public static void main(String[] args) {
        threeHundredBytes();
        theTapeIsTakenOrLeftWhole();
        theEndOfTheTape();
        theHighestByteFirst();
        everyByteAsASign();
        blanks();
        textsOfThreeHundredBytes();
        emptyTexts();
        figures();
        numbersOfOrders();
        numbersOfLinesAndChanges();
        numbersThatAreThereAlready();
        motionsCutAnywhere();
        amendmentsCutAnywhere();
        ordersCutAnywhere();
        wordsOnlyAsAWhole();
        namesOfEachPlace();
        ofOnePlaceTheLeast();
        theFirstAlongTheText();
        fifteenClauses();
        fourBracketsOfBothSorts();
        bracketsThatAreClosed();
        twelveLines();
        sixChanges();
        sumsAtTheBounds();
        divisions();
        comparisonsAtTheBounds();
        namesAtTheirBounds();
        theLastToldHolds();
        whatIsNotToldIsAsUsual();
        aFaultLeavesNothingOfAnyClause();
        manyFaultsLeaveNothing();
        tenOrders();
        twentyFourMotions();
        fortyAmendments();
        thePlaceIsOfTheLatestText();
        lateLines();
        lateHeadsAndDays();
        Check.finish("EdgesOfTextsTest");
    }

    private static String times(int n, String s) {
        return s.repeat(n);
    }

    /** Reads a text as ORDERS, a MOTION or an AMENDMENT on a MOTION of LINE 1, and asks for its FAULT (0: none). */
    private static void read(int sort, String text, int fault, int place) {
        CardHall x = Check.hall(1);
        Check.motion(x, 0, "say 1;");
        int promise = sort == IN_ORDERS ? 12 : sort == IN_MOTION ? 13 : 14;
        int whole = sort == IN_MOTION ? 1 : 0;
        Check.put(x, text);
        int got = sort == IN_ORDERS ? x.orders() : sort == IN_MOTION ? x.motion(0) : x.amend(0);
        Check.due(promise, "reading " + text, got, fault == 0 ? whole : -1 - fault);
        Check.due(15, "place in " + text, x.place(), fault == 0 ? -1 : place);
        Check.due(promise, "the TAPE behind " + text, x.count(9), 0);
        Check.due(promise, "what came of " + text, x.count(4) + x.count(5) + x.count(6), fault == 0 ? 2 : 1);
    }

    private static void whole(int sort, String text) {
        read(sort, text, 0, -1);
    }

    /** "NONE if these would be more than 300." */
    private static void threeHundredBytes() {
        CardHall x = new CardHall();
        for (int i = 1; i <= 15; i++) {
            Check.due(10, "twenty more", x.feed(MIN, -1, 0, 1, MAX), i * 20);
            Check.due(36, "bytes", x.count(9), i * 20);
        }
        Check.due(10, "more than 300", x.feed(0, 0, 0, 0, 0), -1);
        Check.due(36, "bytes as before", x.count(9), 300);
        x.end(299);
        Check.due(10, "319", x.feed(0, 0, 0, 0, 0), -1);
        x.end(281);
        Check.due(10, "301", x.feed(0, 0, 0, 0, 0), -1);
        Check.due(36, "bytes as before", x.count(9), 281);
        x.end(280);
        Check.due(10, "300", x.feed(0, 0, 0, 0, 0), 300);
    }

    private static void theTapeIsTakenOrLeftWhole() {
        CardHall x = Check.hall(1);
        Check.put(x, times(281, " "));
        Check.due(10, "no byte of these comes", x.feed(0x73617920, 0x313B2020, 0x20202020, 0x20202020, 0x20202020), -1);
        x.end(280);
        Check.due(10, "all of these come", x.feed(0x73617920, 0x313B2020, 0x20202020, 0x20202020, 0x20202020), 300);
        Check.due(13, "a text behind 280 blanks", x.motion(0), 0);
        Check.lines(13, x, 0, "1");
    }

    /** "The TAPE has its first n bytes alone: n; NONE if it has less, or n is below 0." */
    private static void theEndOfTheTape() {
        CardHall x = Check.hall(1);
        Check.put(x, "say 1; say 2; say 3");
        Check.due(11, "one more than it has", x.end(20), -1);
        Check.due(11, "below 0", x.end(-1), -1);
        Check.due(11, "far below", x.end(MIN), -1);
        Check.due(11, "far above", x.end(MAX), -1);
        Check.due(36, "all are there", x.count(9), 19);
        Check.due(11, "all of it", x.end(19), 19);
        Check.due(11, "less", x.end(13), 13);
        Check.due(11, "what is gone doesn't come back", x.end(14), -1);
        Check.due(11, "once more", x.end(13), 13);
        Check.due(13, "its first bytes", x.motion(0), 0);
        Check.lines(13, x, 0, "1 2");
        Check.due(11, "an empty one has less", x.end(1), -1);
        Check.due(11, "none of none", x.end(0), 0);
        Check.put(x, "say 1;");
        Check.due(11, "the first alone", x.end(1), 1);
        Check.due(11, "none", x.end(0), 0);
        Check.due(13, "an empty text", x.motion(0), -2);
    }

    /** "Twenty bytes come behind the TAPE, of each number the highest first". */
    private static void theHighestByteFirst() {
        CardHall x = Check.hall(1);
        x.feed(0x73617920, 0x6E6F7420, 0x36302020, 0x6D757374, 0x20203B20);
        x.feed(0x73617931, 0x6D757374, 0x3B0A0A0A, 0x73617920, 0x313B2020);
        Check.due(13, "an N that is there", x.motion(0), -3);
        Check.due(15, "in the second feed", x.place(), 36);
        x.feed(0x73617920, 0x6E6F7420, 0x36302020, 0x6D757374, 0x20203B20);
        x.feed(0x73617931, 0x6D757374, 0x3B0A0A0A, 0x73617920, 0x323B2020);
        Check.due(13, "two feeds, one text", x.motion(0), 0);
        Check.lines(13, x, 0, "-60! 1! 2");
        x.feed(0x73617920, 0x313BFF20, 0x20202020, 0x20202020, 0x20202020);
        Check.due(13, "a byte of 255", x.motion(0), -2);
        Check.due(15, "a byte of 255", x.place(), 6);
        x.feed(0x73617920, 0x313B2020, 0x80000000, 0x20202020, 0x20202020);
        Check.due(13, "bytes of 128 and 0", x.motion(0), -2);
        Check.due(15, "a byte of 128", x.place(), 8);
    }

    /** "WORDS (small letters ...), N (figures likewise ...), all other signs one by one"; "1 a byte ... with which no text goes on". */
    private static void everyByteAsASign() {
        for (int b = 0; b < 256; b++) {
            char c = (char) b;
            boolean blank = b == 32 || b == 10;
            boolean small = b >= 'a' && b <= 'z';
            if (blank) {
                whole(IN_MOTION, "say" + c + "5" + c + ";" + c);
                whole(IN_ORDERS, c + "bind" + c + ";");
                whole(IN_AMENDMENT, c + "add" + c + "5" + c + ";");
            } else {
                read(IN_MOTION, "say 5;" + c, 1, 6);
                read(IN_ORDERS, "bind;" + c, 1, 5);
                read(IN_AMENDMENT, "add 5;" + c, 1, 6);
                read(IN_MOTION, c + "say 5;", 1, 0);
                read(IN_ORDERS, c + "bind;", 1, 0);
                read(IN_AMENDMENT, c + "add 5;", 1, 0);
                // A letter makes another WORD of it, which ends where the blank is.
                if (small) {
                    read(IN_MOTION, "say" + c + " 5;", 1, 0);
                } else if (b < '0' || b > '9') {
                    read(IN_MOTION, "say" + c + " 5;", 1, 3);
                }
            }
        }
    }

    /** "Blanks (32, 10) between where one likes". */
    private static void blanks() {
        whole(IN_ORDERS, "\n pass \n motion\nif  not[yes+1  >\n( no ) ]\n;\n");
        whole(IN_ORDERS, "pass motion if not[yes+1>(no)];rate999;length12;bind;late if lines<3;cards heads;");
        whole(IN_MOTION, " \n say \n not \n 7 \n must \n ; \n ");
        whole(IN_MOTION, "say7must;say not8;say9;");
        whole(IN_AMENDMENT, "\nadd\nnot\n7\n;\nstrike\n1\n;\n");
        whole(IN_AMENDMENT, "add7;add not8;turn9;strike1;");
        read(IN_MOTION, "saynot 7;", 1, 0);
        read(IN_MOTION, "say 7 mu st;", 1, 6);
        read(IN_MOTION, "say 1 2;", 1, 6);
        read(IN_AMENDMENT, "addnot 7;", 1, 0);
        read(IN_ORDERS, "passmotion if 1=1;", 1, 0);
        read(IN_ORDERS, "pass motionif 1=1;", 1, 5);
    }

    /** "TEXTS have at most 300 bytes." */
    private static void textsOfThreeHundredBytes() {
        whole(IN_ORDERS, times(300, " "));
        whole(IN_ORDERS, times(295, " ") + "bind;");
        read(IN_ORDERS, times(295, " ") + "bind ", 1, 300);
        read(IN_ORDERS, times(296, " ") + "bind", 1, 300);
        read(IN_ORDERS, times(299, " ") + "b", 1, 299);
        read(IN_MOTION, times(300, " "), 1, 300);
        whole(IN_MOTION, times(294, "\n") + "say 1;");
        whole(IN_MOTION, "say 1;" + times(294, "\n"));
        read(IN_MOTION, times(295, "\n") + "say 1", 1, 300);
        read(IN_MOTION, times(294, "\n") + "say 0;", 2, 298);
        read(IN_AMENDMENT, times(300, "\n"), 1, 300);
        whole(IN_AMENDMENT, times(293, " ") + "turn 1;");
        read(IN_AMENDMENT, times(293, " ") + "turn 1!", 1, 299);
        read(IN_ORDERS, times(75, "not "), 1, 0);
        read(IN_ORDERS, times(300, "a"), 1, 0);
        read(IN_ORDERS, "rate" + times(296, "1"), 1, 4);
        read(IN_ORDERS, "cards " + times(294, "z"), 3, 6);
        read(IN_ORDERS, "cards 1" + times(146, "+1") + ";", 0, -1);
        read(IN_ORDERS, "cards 1" + times(146, "*1") + "/", 1, 300);
        read(IN_ORDERS, "late if 1=1" + times(36, " or 1=1") + ";", 0, -1);
        read(IN_ORDERS, "late if 1=1" + times(36, " and 1=") + ";", 3, 19);
    }

    /** "ORDERS: { CLAUSE ; }"; "MOTION: LINE ; { LINE ; }"; "AMENDMENT: CHANGE ; { CHANGE ; }". */
    private static void emptyTexts() {
        whole(IN_ORDERS, "");
        whole(IN_ORDERS, "\n");
        read(IN_MOTION, "", 1, 0);
        read(IN_MOTION, "\n", 1, 1);
        read(IN_AMENDMENT, "", 1, 0);
        read(IN_AMENDMENT, "  \n", 1, 3);
        read(IN_ORDERS, ";", 1, 0);
        read(IN_MOTION, ";", 1, 0);
        read(IN_AMENDMENT, ";", 1, 0);
        read(IN_ORDERS, "bind;;", 1, 5);
        read(IN_MOTION, "say 1;;", 1, 6);
        read(IN_AMENDMENT, "add 1;;", 1, 6);
    }

    /** "N (figures likewise, 1 to 4)"; "1 ... (more than 4 figures: at the first one ...)". */
    private static void figures() {
        for (String n : new String[] {"7", "07", "007", "0007"}) {
            whole(IN_MOTION, "say " + n + ";");
            whole(IN_AMENDMENT, "turn " + n + ";");
            whole(IN_ORDERS, "rate " + n + ";");
            whole(IN_ORDERS, "length " + n + ";");
            whole(IN_ORDERS, "cards " + n + ";");
        }
        for (String n : new String[] {"00007", "10000", "99999", "00000", "000000000000007", "4294967303"}) {
            read(IN_MOTION, "say " + n + ";", 1, 4);
            read(IN_MOTION, "say not " + n + ";", 1, 8);
            read(IN_AMENDMENT, "turn " + n + ";", 1, 5);
            read(IN_AMENDMENT, "add not " + n + ";", 1, 8);
            read(IN_ORDERS, "rate " + n + ";", 1, 5);
            read(IN_ORDERS, "length " + n + ";", 1, 7);
            read(IN_ORDERS, "cards " + n + ";", 1, 6);
            read(IN_ORDERS, "pass order if 1 < " + n + ";", 1, 18);
            read(IN_ORDERS, n, 1, 0);
        }
        for (String n : new String[] {"0", "00", "000", "0000"}) {
            read(IN_MOTION, "say " + n + ";", 2, 4);
            read(IN_AMENDMENT, "turn " + n + ";", 2, 5);
            read(IN_ORDERS, "rate " + n + ";", 2, 5);
            read(IN_ORDERS, "length " + n + ";", 2, 7);
            whole(IN_ORDERS, "cards " + n + ";");
        }
        read(IN_MOTION, "say 1 2345;", 1, 6);
        read(IN_MOTION, "say 1;2", 1, 6);
        read(IN_MOTION, "say -1;", 1, 4);
        read(IN_MOTION, "say +1;", 1, 4);
    }

    /** "2 an N that can't be: of rate 0 or above 999, of length 0 or above 12". */
    private static void numbersOfOrders() {
        whole(IN_ORDERS, "rate 1; rate 999; length 1; length 12;");
        read(IN_ORDERS, "rate 0;", 2, 5);
        read(IN_ORDERS, "rate 1000;", 2, 5);
        read(IN_ORDERS, "rate 9999;", 2, 5);
        read(IN_ORDERS, "length 0;", 2, 7);
        read(IN_ORDERS, "length 13;", 2, 7);
        read(IN_ORDERS, "length 60;", 2, 7);
        read(IN_ORDERS, "length 999;", 2, 7);
        read(IN_ORDERS, "length 9999;", 2, 7);
        read(IN_ORDERS, "rate 1; rate 1000", 2, 13);
        whole(IN_ORDERS, "cards 9999; pass motion if 9999 > 0000;");
    }

    /** "... of LINES and CHANGES 0 or above 60". */
    private static void numbersOfLinesAndChanges() {
        for (String s : new String[] {"say ", "say not "}) {
            whole(IN_MOTION, s + "1;");
            whole(IN_MOTION, s + "60 must;");
            for (String n : new String[] {"0", "61", "64", "65", "999", "1000", "9999"}) {
                read(IN_MOTION, s + n + ";", 2, s.length());
                read(IN_MOTION, s + n + " must;", 2, s.length());
            }
        }
        for (String s : new String[] {"strike ", "add ", "add not ", "turn "}) {
            whole(IN_AMENDMENT, s + "1;");
            whole(IN_AMENDMENT, s + "60;");
            for (String n : new String[] {"0", "61", "64", "65", "999", "1000", "9999"}) {
                read(IN_AMENDMENT, s + n + ";", 2, s.length());
                read(IN_AMENDMENT, "add 5;" + s + n + "; turn 99999;", 2, 6 + s.length());
            }
        }
    }

    /** "... an N that a LINE of the MOTION has already". */
    private static void numbersThatAreThereAlready() {
        for (int n : new int[] {1, 2, 31, 32, 33, 59, 60}) {
            int there = 5 + Integer.toString(n).length();
            read(IN_MOTION, "say " + n + ";say " + n + ";", 2, there + 4);
            read(IN_MOTION, "say " + n + ";say not " + n + ";", 2, there + 8);
            read(IN_MOTION, "say not " + n + ";say " + n + " must;", 2, there + 8);
            read(IN_MOTION, "say " + n + ";say 7;say 00" + n + ";", 2, there + 10);
            whole(IN_MOTION, "say " + n + ";say " + (n % 60 + 1) + ";");
        }
        // 1 and 33, 1 and 65: not the same though they are in the lowest bits.
        whole(IN_MOTION, "say 1;say 33;say 28;say 60;");
        // Each text has its own LINES, one with a FAULT leaves none.
        CardHall x = Check.hall(1);
        Check.due(13, "a fault behind 5", Check.motion(x, 0, "say 5; say 6; say 5;"), -3);
        Check.due(13, "5 once more", Check.motion(x, 0, "say 5; say 6;"), 0);
        Check.due(13, "5 in another", Check.motion(x, 0, "say 6; say 5;"), 1);
        Check.lines(13, x, 0, "5 6");
        Check.lines(13, x, 1, "6 5");
        // Of CHANGES no N is there already, be it of the MOTION or of another CHANGE.
        whole(IN_AMENDMENT, "add 1;");
        whole(IN_AMENDMENT, "add not 1;");
        whole(IN_AMENDMENT, "add 7; add 7; add not 7; turn 7; strike 7; strike 7;");
    }

    /** Each beginning of a text; a TOKEN that is cut is another one, and its place is where it begins. */
    private static void cut(int sort, String text, int wholeFrom, int... places) {
        for (int k = 0; k < places.length; k++) {
            read(sort, text.substring(0, k), k >= wholeFrom || places[k] == -1 ? 0 : 1, places[k]);
        }
    }

    /** "(... the end: at how many bytes there are)". */
    private static void motionsCutAnywhere() {
        cut(IN_MOTION, "say not 12 must;", 16, 0, 0, 0, 3, 4, 4, 4, 7, 8, 9, 10, 11, 11, 11, 11, 15, -1);
        cut(IN_MOTION, "say 1;", 6, 0, 0, 0, 3, 4, 5, -1);
        String second = "say 1; say 2;";
        for (int k = 6; k <= 7; k++) {
            whole(IN_MOTION, second.substring(0, k));
        }
        int[] places = {7, 7, 10, 11, 12};
        for (int k = 8; k <= 12; k++) {
            read(IN_MOTION, second.substring(0, k), 1, places[k - 8]);
        }
        read(IN_MOTION, "say 1 ", 1, 6);
        read(IN_MOTION, "say 1\n\n", 1, 7);
    }

    private static void amendmentsCutAnywhere() {
        cut(IN_AMENDMENT, "strike 9;", 9, 0, 0, 0, 0, 0, 0, 6, 7, 8, -1);
        cut(IN_AMENDMENT, "add not 9;", 10, 0, 0, 0, 3, 4, 4, 4, 7, 8, 9, -1);
        cut(IN_AMENDMENT, "turn 60;", 8, 0, 0, 0, 0, 4, 5, 6, 7, -1);
        read(IN_AMENDMENT, "add 1; tur", 1, 7);
        read(IN_AMENDMENT, "add 1; turn", 1, 11);
    }

    private static void ordersCutAnywhere() {
        cut(IN_ORDERS, "rate 5;", 7, -1, 0, 0, 0, 4, 5, 6, -1);
        read(IN_ORDERS, "pass", 1, 4);
        read(IN_ORDERS, "pass m", 1, 5);
        read(IN_ORDERS, "pass motion", 1, 11);
        read(IN_ORDERS, "pass motion i", 1, 12);
        read(IN_ORDERS, "pass motion if", 1, 14);
        read(IN_ORDERS, "pass motion if y", 3, 15);
        read(IN_ORDERS, "pass motion if yes", 1, 18);
        read(IN_ORDERS, "pass motion if yes >", 1, 20);
        read(IN_ORDERS, "pass motion if yes > n", 3, 21);
        read(IN_ORDERS, "pass motion if yes > no", 1, 23);
        read(IN_ORDERS, "pass motion if yes > no and", 1, 27);
        read(IN_ORDERS, "pass motion if yes > no and not", 1, 31);
        read(IN_ORDERS, "pass motion if yes > no and not [", 1, 33);
        read(IN_ORDERS, "pass motion if [1=1", 1, 19);
        read(IN_ORDERS, "pass motion if [1=1]", 1, 20);
        read(IN_ORDERS, "late", 1, 4);
        read(IN_ORDERS, "late if", 1, 7);
        read(IN_ORDERS, "cards", 1, 5);
        read(IN_ORDERS, "cards (", 1, 7);
        read(IN_ORDERS, "cards (1", 1, 8);
        read(IN_ORDERS, "cards (1)", 1, 9);
        read(IN_ORDERS, "cards 1 *", 1, 9);
        read(IN_ORDERS, "length", 1, 6);
        read(IN_ORDERS, "bind", 1, 4);
        read(IN_ORDERS, "bind ; rat", 1, 7);
    }

    /** "WORDS (small letters, as many as stand together)". */
    private static void wordsOnlyAsAWhole() {
        for (String w : new String[] {"pas", "passs", "card", "cardss", "rat", "rates", "lengt", "lengths", "bin", "binds",
            "lat", "lates", "say", "add", "must", "not", "and", "or", "if", "heads", "yes", "motion", "z"}) {
            read(IN_ORDERS, w + ";", 1, 0);
        }
        for (String w : new String[] {"sa", "says", "add", "strike", "turn", "not", "must", "bind"}) {
            read(IN_MOTION, w + " 1;", 1, 0);
        }
        for (String w : new String[] {"ad", "adds", "strik", "strikes", "tur", "turns", "say", "not"}) {
            read(IN_AMENDMENT, w + " 1;", 1, 0);
        }
        for (String w : new String[] {"motio", "motions", "amen", "amends", "amendment", "orde", "orders", "if", "late"}) {
            read(IN_ORDERS, "pass " + w + " if 1=1;", 1, 5);
        }
        read(IN_ORDERS, "pass amend iff 1=1;", 1, 11);
        read(IN_ORDERS, "late i 1=1;", 1, 5);
        read(IN_ORDERS, "late if 1=1 an 1=1;", 1, 12);
        read(IN_ORDERS, "late if 1=1 ands 1=1;", 1, 12);
        read(IN_ORDERS, "late if 1=1 o 1=1;", 1, 12);
        read(IN_ORDERS, "late if nott 1=1;", 3, 8);
        read(IN_MOTION, "say nots 1;", 1, 4);
        read(IN_MOTION, "say 1 musts;", 1, 6);
        read(IN_MOTION, "say 1 mus;", 1, 6);
    }

    /** "3 a WORD that is to be a FACTOR and is no NAME there". */
    private static void namesOfEachPlace() {
        String[] names = {"yes", "no", "all", "sections", "against", "day", "heads", "branches", "souls", "section", "lines"};
        String[] clauses = {"pass motion if ", "pass amend if ", "pass order if ", "cards ", "late if "};
        String[] taken = {"yes no all sections against day", "heads branches souls section", "heads lines day"};
        for (int c = 0; c < clauses.length; c++) {
            String list = " " + taken[c < 3 ? 0 : c - 2] + " ";
            for (String name : names) {
                String text = clauses[c] + name + (c == 3 ? ";" : "=1;");
                boolean there = list.contains(" " + name + " ");
                read(IN_ORDERS, text, there ? 0 : 3, clauses[c].length());
                read(IN_ORDERS, clauses[c] + "1*(" + name + (c == 3 ? ");" : ")=1;"), there ? 0 : 3, clauses[c].length() + 3);
            }
            for (String word : new String[] {"and", "or", "if", "say", "must", "pass", "bind", "a", "z", "ye", "yess", "head"}) {
                read(IN_ORDERS, clauses[c] + word + ";", 3, clauses[c].length());
            }
        }
        // A not that is to be a FACTOR is no NAME, ahead of a PART it is none.
        read(IN_ORDERS, "cards not;", 3, 6);
        read(IN_ORDERS, "late if 1=not 1;", 3, 10);
        read(IN_ORDERS, "late if (not 1)=1;", 3, 9);
        whole(IN_ORDERS, "late if not 1=1;");
        // Where no FACTOR is to be a WORD is another TOKEN that doesn't fit.
        read(IN_ORDERS, "cards 1 heads;", 1, 8);
        read(IN_ORDERS, "late if day day;", 1, 12);
        read(IN_ORDERS, "rate heads;", 1, 5);
    }

    /** "FAULTS, the first along the text, of one place the least". */
    private static void ofOnePlaceTheLeast() {
        String fifteen = times(15, "bind;");
        read(IN_ORDERS, fifteen + "hall;", 1, 75);
        read(IN_ORDERS, fifteen + ";", 1, 75);
        read(IN_ORDERS, fifteen + "12345", 1, 75);
        read(IN_ORDERS, fifteen + "rate 0;", 4, 75);
        StringBuilder twelve = new StringBuilder();
        for (int i = 1; i <= 12; i++) {
            twelve.append("say ").append(i).append(";");
        }
        read(IN_MOTION, twelve + "bind", 1, twelve.length());
        read(IN_MOTION, twelve + "1", 1, twelve.length());
        read(IN_MOTION, twelve + "say 1;", 4, twelve.length());
        String six = times(6, "add 1;");
        read(IN_AMENDMENT, six + "say 1;", 1, 36);
        read(IN_AMENDMENT, six + "(", 1, 36);
        read(IN_AMENDMENT, six + "turn 0;", 4, 36);
        // A fifth bracket that couldn't stand there anyway.
        read(IN_ORDERS, "cards ((((1(", 1, 11);
        read(IN_ORDERS, "cards (((([", 1, 10);
        read(IN_ORDERS, "late if [[[[1=1[", 1, 15);
        read(IN_ORDERS, "late if ([", 1, 9);
    }

    private static void theFirstAlongTheText() {
        read(IN_ORDERS, "rate 0; hall;", 2, 5);
        read(IN_ORDERS, "rate 5 hall; rate 0;", 1, 7);
        read(IN_ORDERS, "cards zoo; rate 0;", 3, 6);
        read(IN_ORDERS, "cards (((((zoo", 4, 10);
        read(IN_ORDERS, "cards zoo+(((((", 3, 6);
        read(IN_ORDERS, "cards 12345; rate 0;", 1, 6);
        read(IN_ORDERS, "rate 0; 12345", 2, 5);
        read(IN_MOTION, "say 61; say 1; say 1;", 2, 4);
        read(IN_MOTION, "say 1; say 1; say 61;", 2, 11);
        read(IN_MOTION, "say 0 0;", 2, 4);
        read(IN_AMENDMENT, "turn 61; add 12345;", 2, 5);
        read(IN_AMENDMENT, "turn not 61;", 1, 5);
    }

    /** "{ CLAUSE ; }, at most 15"; "4 as a 16th CLAUSE ... begins". */
    private static void fifteenClauses() {
        String mixed = "bind;rate 2;length 3;cards 1;late if 1=1;pass motion if 1=1;pass amend if 1=1;pass order if 1=1;";
        String seven = "bind;rate 2;length 3;cards 1;late if 1=1;bind;bind;";
        whole(IN_ORDERS, mixed + seven);
        whole(IN_ORDERS, mixed + seven + " \n ");
        int end = (mixed + seven).length();
        for (String clause : new String[] {"bind;", "rate 2;", "length 3;", "cards 1;", "late if 1=1;", "pass motion if 1=1;"}) {
            read(IN_ORDERS, mixed + seven + clause, 4, end);
            read(IN_ORDERS, mixed + seven + "\n " + clause.substring(0, 4), clause.startsWith("card")
                || clause.startsWith("leng") ? 1 : 4, end + 2);
        }
        read(IN_ORDERS, times(14, "bind;") + "bind", 1, 74);
        read(IN_ORDERS, times(14, "bind;") + "bind;bind", 4, 75);
    }

    /** "A 5th bracket (of both sorts together) that is open at once". */
    private static void fourBracketsOfBothSorts() {
        for (int square = 0; square <= 4; square++) {
            String open = times(square, "[") + times(4 - square, "(");
            String close = times(4 - square, ")");
            whole(IN_ORDERS, "late if " + open + "1" + close + "=1" + times(square, "]") + ";");
            whole(IN_ORDERS, "late if " + times(square, "[") + "1=" + times(4 - square, "(") + "1" + close
                + times(square, "]") + ";");
            read(IN_ORDERS, "late if " + open + "(1", 4, 12);
            read(IN_ORDERS, "late if " + open + "[", square == 4 ? 4 : 1, 12);
        }
        whole(IN_ORDERS, "late if not [not [not [not [not 1=1]]]];");
        read(IN_ORDERS, "late if not [not [not [not [not [", 4, 32);
        read(IN_ORDERS, "cards 1+(2*(3-(4/(5+(", 4, 20);
    }

    private static void bracketsThatAreClosed() {
        whole(IN_ORDERS, "cards ((((1))))+((((2))))-((((3))));");
        read(IN_ORDERS, "cards (((1)+((2)", 1, 16);
        read(IN_ORDERS, "cards (((1)+((2", 1, 15);
        whole(IN_ORDERS, "late if [[[[1=1]]]] or [[[[1=1]]]] and [[[(1)=(1)]]];");
        whole(IN_ORDERS, "late if [[(1)=1 or (2)=2] and [(3)=3]];");
        read(IN_ORDERS, "late if [[[[1=1] or 1=(((1", 4, 23);
        whole(IN_ORDERS, "late if [[[[1=1] or 1=(1)]]];");
        whole(IN_ORDERS, "cards ((((1)))); cards ((((1)))); late if [[[[1=1]]]];");
        read(IN_ORDERS, "late if [1=1;", 1, 12);
        read(IN_ORDERS, "late if 1=1];", 1, 11);
        read(IN_ORDERS, "late if [1=1);", 1, 12);
        read(IN_ORDERS, "cards (1];", 1, 8);
        read(IN_ORDERS, "cards ();", 1, 7);
        read(IN_ORDERS, "late if [];", 1, 9);
        read(IN_ORDERS, "cards [1];", 1, 6);
    }

    /** "LINE ; { LINE ; }, at most 12"; "a ... 13th LINE ... begins". */
    private static void twelveLines() {
        StringBuilder text = new StringBuilder();
        for (int i = 1; i <= 12; i++) {
            text.append("say not ").append(48 + i).append(" must;");
            whole(IN_MOTION, text.toString());
        }
        read(IN_MOTION, text + "say 1;", 4, text.length());
        read(IN_MOTION, text + " say", 4, text.length() + 1);
        whole(IN_MOTION, text + " \n");
        read(IN_MOTION, text + ";", 1, text.length());
        CardHall x = Check.hall(1);
        Check.motion(x, 0, text.toString());
        Check.lines(25, x, 0, "-49! -50! -51! -52! -53! -54! -55! -56! -57! -58! -59! -60!");
    }

    /** "CHANGE ; { CHANGE ; }, at most 6"; "a ... 7th CHANGE begins". */
    private static void sixChanges() {
        String[] sorts = {"strike 1;", "add 2;", "add not 3;", "turn 2;", "strike 3;", "add 60;"};
        StringBuilder text = new StringBuilder();
        for (String s : sorts) {
            text.append(s);
            whole(IN_AMENDMENT, text.toString());
        }
        for (String s : sorts) {
            read(IN_AMENDMENT, text + s, 4, text.length());
            read(IN_AMENDMENT, text + "\n" + s.substring(0, s.indexOf(' ')), 4, text.length() + 1);
        }
        CardHall x = Check.hall(1);
        Check.motion(x, 0, "say 1;");
        Check.amend(x, 0, text.toString());
        x.casts(0, 100, 1);
        x.decide(100);
        Check.lines(21, x, 0, "-2@0 60@0");
    }

    private static final String MOST = "1000*1000*1000";

    /** Whether a condition holds (with nobody's VOICE, of one with 1 CARD). */
    private static void holds(String text, boolean want) {
        CardHall x = Check.hall(1);
        Check.due(12, "orders of " + text, Check.orders(x, "pass motion if " + text + ";"), 0);
        Check.motion(x, 0, "say 1;");
        Check.due(12, text, x.would(0, 0), want ? 1 : 0);
    }

    private static void same(String left, String right) {
        holds(left + " = " + right, true);
        holds(left + " < " + right, false);
        holds(left + " > " + right, false);
        holds("not " + left + " = " + right, false);
    }

    /** "Each sum, difference, product above 1000000000 is that, below -1000000000 likewise." */
    private static void sumsAtTheBounds() {
        same(MOST + "-1+1", MOST);
        same(MOST + "+1", MOST);
        same(MOST + "+1-1", MOST + "-1");
        same(MOST + "+2-1", MOST + "-1");
        same(MOST + "+9999-9999", MOST + "-9999");
        same("0-" + MOST + "-1", "0-" + MOST);
        same("0-" + MOST + "-1+1", "1-" + MOST);
        same("0-" + MOST + "-2+1", "1-" + MOST);
        same("0-" + MOST + "+1-1", "0-" + MOST);
        same("(0-" + MOST + ")-" + MOST, "0-" + MOST);
        same("(0-" + MOST + ")+(0-" + MOST + ")", "0-" + MOST);
        same(MOST + "+" + MOST, MOST);
        same("1-(0-" + MOST + ")", MOST);
        same("0-(0-" + MOST + ")", MOST);
        same("999*1000*1000+999*1000+1000", MOST);
        same("1-999*1000*1000-999*1000-1000", "1-" + MOST);
        same("9999*9999*9999*9999", MOST);
        same(MOST + "*(" + MOST + ")", MOST);
        same("(0-" + MOST + ")*(" + MOST + ")", "0-" + MOST);
        same("(0-" + MOST + ")*(0-" + MOST + ")", MOST);
        same("(0-9999)*9999*9999", "0-" + MOST);
        same("(0-1)*(" + MOST + "+1)", "0-" + MOST);
        same(MOST + "*0", "0");
        // 31623 by itself is 1000014129, 31622 by itself 999950884.
        same("(9999*3+1626)*(9999*3+1626)", MOST);
        same("(9999*3+1625)*(9999*3+1625)", "9999*9999*10+1508*100+74");
        same("(0-9999*3-1626)*(9999*3+1626)", "0-" + MOST);
        // From the left on, so a bound on the way counts.
        same(MOST + "+1-" + MOST, "0");
        same(MOST + "-" + MOST + "+1", "1");
        same("1+" + MOST + "-" + MOST, "0");
        same("1+(" + MOST + "-" + MOST + ")", "1");
        same(MOST + "*2/2", "5*1000*1000*100");
        same(MOST + "*9/3", "3333*1000*100+333*100+33");
    }

    /** "/ rounds towards 0, by 0 it is 0". */
    private static void divisions() {
        same("7/2", "3");
        same("(0-7)/2", "0-3");
        same("7/(0-2)", "0-3");
        same("(0-7)/(0-2)", "3");
        same("1/2", "0");
        same("(0-1)/2", "0");
        same("1/(0-2)", "0");
        same("9999/9999", "1");
        same("9998/9999", "0");
        same("9999/1", "9999");
        same("9999/0", "0");
        same("0/0", "0");
        same("(0-9999)/0", "0");
        same(MOST + "/0", "0");
        same("7/0*5+2", "2");
        same("7/(1-1)", "0");
        same("7/0/0", "0");
        same("0/7", "0");
        same(MOST + "/(0-1)", "0-" + MOST);
        same("(0-" + MOST + ")/(0-1)", MOST);
        same(MOST + "/(" + MOST + ")", "1");
        same("(" + MOST + "-1)/(" + MOST + ")", "0");
        same("100/7/2", "7");
        same("100/(7/2)", "33");
        same("7/2*2", "6");
        same("7*2/2", "7");
        same("2-7/2", "0-1");
    }

    private static void comparisonsAtTheBounds() {
        holds(MOST + " > " + MOST + "-1", true);
        holds(MOST + "-1 < " + MOST, true);
        holds("0-" + MOST + " < 1-" + MOST, true);
        holds("0-" + MOST + " < " + MOST, true);
        holds(MOST + " > 0-" + MOST, true);
        holds("0-1 < 0", true);
        holds("0 > 0-1", true);
        holds("0 = 0", true);
        holds("0 < 0", false);
        holds("0 > 0", false);
        holds("1 > 0", true);
        holds("0 < 1", true);
        holds("1 < 0", false);
        holds("0 > 1", false);
        holds("0 = 1", false);
    }

    /** NAMES at the ends of what they can be: yes and all 1000000000, sections 0 and 6, day 0. */
    private static void namesAtTheirBounds() {
        CardHall x = new CardHall();
        for (int a = 0; a < 12; a++) {
            x.affiliate(a % 6);
        }
        Check.orders(x, "cards " + MOST + "; pass motion if yes=" + MOST + " and no=0 and all=yes and sections=6 and day=0"
            + " and yes+1=yes and against=0;");
        Check.motion(x, 0, "say 1;");
        Check.motion(x, 0, "say 2;");
        for (int a = 0; a < 12; a++) {
            x.casts(a, 0, 1);
        }
        Check.due(31, "yes, all, sections", x.would(0, 0), 1);
        Check.due(31, "of nobody", x.would(1, 0), 0);
        CardHall y = Check.hall(1);
        Check.orders(y, "pass motion if yes=0 and no=0 and sections=0 and all=1;");
        Check.motion(y, 0, "say 1;");
        Check.due(31, "nobody has a voice", y.would(0, 0), 1);
    }

    /** "Of pass (of one KIND), cards, rate, length, late the last told holds". */
    private static void theLastToldHolds() {
        CardHall x = Check.hall(30);
        Check.orders(x, "pass motion if 1=2; pass amend if 1=1; pass order if 1=2; pass motion if 1=1; pass amend if 1=2;"
            + "pass order if 1=1; cards 5; cards 6; rate 20; rate 10; length 1; length 2; late if 1=1; late if 1=2;");
        Check.orders(x, "");
        Check.motion(x, 0, "say 1;");
        Check.motion(x, 0, "say 2; say 3;");
        Check.amend(x, 0, "add 5;");
        Check.due(12, "motions", x.would(0, 0), 1);
        Check.due(12, "amendments", x.would(100, 0), 0);
        Check.due(12, "orders", x.would(201, 0), 1);
        Check.due(12, "cards", x.cards(0, 0), 6);
        Check.due(12, "rate", x.paid(0, 0), 30);
        Check.due(12, "length", x.lost(3), 1);
        x.closing(0);
        x.day(1);
        Check.due(12, "late", Check.motion(x, 0, "say 9;"), -6);
    }

    /** "(YES more than NO; PAID HEADS; 10; 12; never, without)", of each KIND by itself. */
    private static void whatIsNotToldIsAsUsual() {
        String[] kinds = {"motion", "amend", "order"};
        for (int told = 0; told < 3; told++) {
            for (int side = 0; side < 3; side++) {
                CardHall x = Check.hall(30, 29, 31);
                Check.orders(x, "pass " + kinds[told] + " if no > yes;");
                Check.orders(x, "");
                Check.motion(x, 0, "say 1;");
                Check.amend(x, 0, "add 5;");
                int[] matters = {0, 100, 201};
                for (int kind = 0; kind < 3; kind++) {
                    x.casts(0, matters[kind], 1);
                    x.casts(side == 2 ? 2 : 1, matters[kind], side == 1 ? 2 : 0);
                    boolean more = side < 2;
                    Check.due(12, kinds[kind] + " beside " + kinds[told], x.would(matters[kind], 0),
                        (kind == told) != more ? 1 : 0);
                }
            }
        }
        CardHall y = Check.hall(30);
        y.dues(0, 29);
        Check.orders(y, "pass motion if 1=1;");
        Check.due(12, "rate 10", y.paid(0, 0), 2);
        Check.due(12, "paid heads", y.cards(0, 0), 2);
        Check.motion(y, 0, "say 1;");
        y.mandate(0, 0, 1);
        Check.due(12, "without bind", y.casts(0, 0, 0), true);
        y.closing(0);
        y.day(1);
        Check.due(12, "never late", Check.motion(y, 0, "say 1;"), -6);
    }

    /** "A text with a FAULT changes nothing", nor is anything of it in the next ORDERS. */
    private static void aFaultLeavesNothingOfAnyClause() {
        String[] clauses = {"pass motion if 1=2;", "pass amend if 1=2;", "pass order if 1=2;", "cards 7;", "rate 100;",
            "length 1;", "bind;", "late if 1=1;"};
        for (int first = 0; first < 2; first++) {
            for (String clause : clauses) {
                CardHall x = Check.hall(30);
                if (first == 1) {
                    Check.orders(x, "pass order if 1=1;");
                }
                Check.due(12, "a fault behind " + clause, Check.orders(x, clause + "rate 0;"), -3);
                Check.due(12, "a fault in it", Check.orders(x, clause.replace(";", "")), -2);
                Check.due(12, "the next", Check.orders(x, ""), first);
                if (first == 1) {
                    x.decide(201);
                }
                Check.orders(x, "");
                usual(x, clause, first);
            }
        }
    }

    /** However many FAULTS there were, each of a long text, the next text is read as a whole. */
    private static void manyFaultsLeaveNothing() {
        CardHall x = Check.hall(30);
        for (int i = 0; i < 20; i++) {
            Check.due(12, "a fault at the end", Check.orders(x, "cards 1" + times(145, "*1") + ";x"), -2);
            Check.due(15, "its place", x.place(), 298);
        }
        Check.due(12, "as long a text", Check.orders(x, "cards 9" + times(145, "+2") + "-5;"), 0);
        Check.due(17, "9 and 290 less 5", x.cards(0, 0), 294);
        for (int i = 0; i < 20; i++) {
            Check.motion(x, 0, "say 1; say 2; say 3; say 4; say 5; say 6; say 7; say 8; say 9; say 10; say 11; say 12; say 13;");
            Check.motion(x, 0, "say 1;");
            Check.amend(x, 0, "add 2; add 3; add 4; add 5; add 6; add 7; add 8;");
        }
        Check.due(13, "motions", x.count(4), 20);
        Check.lines(13, x, 19, "1");
        Check.due(14, "amendments", x.count(5), 0);
    }

    private static void usual(CardHall x, String clause, int first) {
        Check.due(12, clause + " in force", x.count(7), first);
        Check.motion(x, 0, "say 1;");
        Check.motion(x, 0, "say 2; say 3;");
        Check.amend(x, 0, "add 5;");
        int open = 201 + first;
        for (int matter : new int[] {0, 100, open}) {
            x.mandate(0, matter, 1);
            Check.due(12, clause + " matter " + matter, x.would(matter, 0), 1);
        }
        Check.due(12, clause + " cards", x.cards(0, 0), 30);
        Check.due(12, clause + " paid", x.paid(0, 0), 30);
        Check.due(12, clause + " length", x.lost(3), 0);
        Check.due(12, clause + " bind", x.casts(0, 0, 0), true);
        x.closing(0);
        x.day(1);
        Check.due(12, clause + " late", Check.motion(x, 0, "say 9;"), -6);
    }

    /** "ORDERS, at most 10, numbered as they come: the first is PASSED, IN FORCE at once"; "NONE: ten are there". */
    private static void tenOrders() {
        CardHall x = Check.hall(999);
        for (int i = 0; i < 10; i++) {
            Check.due(24, "not there yet", x.how(200 + i), -1);
            Check.due(12, "a fault takes no number", Check.orders(x, "rate 0;"), -3);
            Check.due(24, "not there yet", x.how(200 + i), -1);
            Check.due(12, "orders " + i, Check.orders(x, "rate " + (i == 0 ? 10 : i * 100 + 90) + ";"), i);
            Check.due(24, "how " + i, x.how(200 + i), i == 0 ? 1 : 0);
            Check.due(36, "in force", x.count(7), 0);
            Check.due(36, "orders", x.count(6), i + 1);
        }
        Check.due(24, "no eleventh", x.how(210), -1);
        Check.due(12, "an eleventh", Check.orders(x, "rate 0;"), -1);
        Check.due(15, "it isn't read", x.place(), -1);
        Check.due(10, "the TAPE stays", x.count(9), 7);
        Check.due(13, "and can be read", x.motion(0), -2);
        x.casts(0, 209, 1);
        Check.due(21, "the tenth passes", x.decide(209), 1);
        Check.due(36, "in force", x.count(7), 9);
        Check.due(16, "paid by 990", x.paid(0, 0), 10);
    }

    /** "MOTIONS, at most 24, numbered as they come"; "NONE: no such AFFILIATE, 24 are there (the TAPE stays)." */
    private static void twentyFourMotions() {
        CardHall x = Check.hall(1);
        Check.due(13, "no such mover", Check.motion(x, 1, "say 0;"), -1);
        Check.due(13, "no such mover", x.motion(-1), -1);
        Check.due(13, "no such mover", x.motion(MIN), -1);
        Check.due(13, "no such mover", x.motion(MAX), -1);
        Check.due(15, "it isn't read", x.place(), -1);
        Check.due(10, "the TAPE stays", x.count(9), 6);
        for (int i = 0; i < 24; i++) {
            Check.due(24, "not there yet", x.how(i), -1);
            Check.due(13, "a fault takes no number", Check.motion(x, 0, "say 0;"), -3);
            Check.due(24, "not there yet", x.how(i), -1);
            Check.due(13, "motion " + i, Check.motion(x, 0, "say " + (i + 1) + ";"), i);
            Check.due(24, "open", x.how(i), 0);
        }
        Check.due(13, "a 25th", Check.motion(x, 0, "say 0;"), -1);
        Check.due(15, "it isn't read", x.place(), -1);
        Check.due(10, "the TAPE stays", x.count(9), 6);
        Check.due(36, "motions", x.count(4), 24);
        Check.due(24, "no 25th", x.how(24), -1);
        Check.lines(25, x, 23, "24");
    }

    /** "AMENDMENTS, at most 40, ... hang on a MOTION that is OPEN"; "NONE: the MOTION isn't OPEN, 40 are there (the TAPE stays)." */
    private static void fortyAmendments() {
        CardHall x = Check.hall(1);
        Check.motion(x, 0, "say 1;");
        Check.motion(x, 0, "say 2;");
        x.decide(1);
        Check.put(x, "add 0;");
        for (int m : new int[] {-1, 1, 2, 23, 24, 100, 200, MIN, MAX}) {
            Check.due(14, "not open, " + m, x.amend(m), -1);
        }
        Check.due(15, "it isn't read", x.place(), -1);
        Check.due(10, "the TAPE stays", x.count(9), 6);
        for (int i = 0; i < 40; i++) {
            Check.due(24, "not there yet", x.how(100 + i), -1);
            Check.due(14, "a fault takes no number", Check.amend(x, 0, "add 0;"), -3);
            Check.due(24, "not there yet", x.how(100 + i), -1);
            Check.due(14, "amendment " + i, Check.amend(x, 0, "add " + (i + 2) + ";"), i);
            Check.due(24, "open", x.how(100 + i), 0);
        }
        Check.due(14, "a 41st", Check.amend(x, 0, "add 0;"), -1);
        Check.due(15, "it isn't read", x.place(), -1);
        Check.due(10, "the TAPE stays", x.count(9), 6);
        Check.due(36, "amendments", x.count(5), 40);
        Check.due(24, "no 41st", x.how(140), -1);
        x.casts(0, 139, 1);
        Check.due(21, "the last passes", x.decide(139), 1);
        Check.lines(21, x, 0, "1 41@39");
    }

    /** "The place of the FAULT of the latest text that was read; NONE without one." */
    private static void thePlaceIsOfTheLatestText() {
        CardHall x = Check.hall(1);
        Check.due(15, "none was read", x.place(), -1);
        Check.orders(x, "rate 0;");
        Check.due(15, "of orders", x.place(), 5);
        x.feed(0, 0, 0, 0, 0);
        Check.due(15, "feeding reads nothing", x.place(), 5);
        x.motion(7);
        Check.due(15, "nor does what is refused", x.place(), 5);
        x.end(0);
        x.amend(0);
        Check.due(15, "nor does what is refused", x.place(), 5);
        Check.motion(x, 0, "say 1; say 1;");
        Check.due(15, "of a motion", x.place(), 11);
        Check.motion(x, 0, "say 1;");
        Check.due(15, "one without", x.place(), -1);
        Check.amend(x, 0, "turn 1");
        Check.due(15, "of an amendment, the end", x.place(), 6);
        Check.amend(x, 0, "turn 1;");
        Check.due(15, "one without", x.place(), -1);
        Check.motion(x, 0, "");
        Check.due(15, "of an empty one", x.place(), 0);
        Check.orders(x, "");
        Check.due(15, "one without", x.place(), -1);
        Check.motion(x, 0, "");
        x.closing(0);
        x.day(1);
        Check.motion(x, 0, "say 1;");
        Check.due(15, "a late one was read", x.place(), -1);
        Check.motion(x, 0, "say");
        Check.due(15, "a late one with a fault", x.place(), 3);
    }

    /** "NAMES ... in late: ... lines": 1 to 12 of the text that was read. */
    private static void lateLines() {
        for (int most = 1; most <= 12; most += 11) {
            CardHall x = Check.hall(1);
            Check.orders(x, "late if lines = " + most + ";");
            x.closing(0);
            x.day(1);
            StringBuilder text = new StringBuilder();
            int there = 0;
            for (int i = 1; i <= 12; i++) {
                text.append("say ").append(i).append(";");
                Check.due(13, i + " lines of " + most, Check.motion(x, 0, text.toString()), i == most ? there : -6);
                there += i == most ? 1 : 0;
            }
            Check.due(13, "13 lines", Check.motion(x, 0, text + "say 13;"), -5);
            Check.due(36, "motions", x.count(4), 1);
        }
    }

    private static void lateHeadsAndDays() {
        CardHall x = Check.hall(0, 9999);
        Check.orders(x, "late if heads = 0 and day = 1 or heads = 9999 and day = 2;");
        x.closing(0);
        x.day(1);
        Check.due(13, "heads 0", Check.motion(x, 0, "say 1;"), 0);
        Check.due(13, "heads 9999", Check.motion(x, 1, "say 1;"), -6);
        x.day(1);
        Check.due(13, "heads 0", Check.motion(x, 0, "say 1;"), -6);
        Check.due(13, "heads 9999", Check.motion(x, 1, "say 1;"), 1);
    }
}
