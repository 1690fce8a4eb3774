import java.util.NoSuchElementException;

/** What the tests of the promises share. */
final class Check {
    private static int wrong = 0;
    private static int asked = 0;

    private Check() { }

    static void due(int promise, String what, long got, long want) {
        asked++;
        if (got != want) {
            wrong++;
            System.out.println("promise " + promise + ": " + what + " answered " + got + ", due is " + want);
        }
    }

    static void due(int promise, String what, boolean got, boolean want) {
        due(promise, what, got ? 1 : 0, want ? 1 : 0);
    }

    /** Puts a text on the TAPE in place of what is there. */
    static void put(CardHall x, String text) {
        x.end(0);
        for (int i = 0; i < text.length(); i += 20) {
            int[] w = new int[5];
            for (int k = 0; k < 20; k++) {
                int c = i + k < text.length() ? text.charAt(i + k) : ' ';
                w[k / 4] = w[k / 4] << 8 | c;
            }
            x.feed(w[0], w[1], w[2], w[3], w[4]);
        }
        x.end(text.length());
    }

    static int motion(CardHall x, int mover, String text) {
        put(x, text);
        return x.motion(mover);
    }

    static int amend(CardHall x, int motion, String text) {
        put(x, text);
        return x.amend(motion);
    }

    static int orders(CardHall x, String text) {
        put(x, text);
        return x.orders();
    }

    /** AFFILIATES, one for each number, with so many CARDS, each of another SECTION with one BRANCH of 10. */
    static CardHall hall(int... cards) {
        CardHall x = new CardHall();
        for (int i = 0; i < cards.length; i++) {
            x.affiliate(i % 6);
            x.branch(i, 10);
            x.heads(i, cards[i]);
            x.dues(i, cards[i] * 10);
        }
        return x;
    }

    /** A ROW's field; -99 where the exception is thrown. */
    static int row(CardHall x, int k, int what) {
        try {
            return x.row(k, what);
        } catch (NoSuchElementException e) {
            return -99;
        }
    }

    /** The LINES of a MOTION: N, "!" if must, "@" and the AMENDMENT if by one. */
    static void lines(int promise, CardHall x, int motion, String want) {
        StringBuilder s = new StringBuilder();
        for (int i = 0; x.line(motion, i, 0) != 0; i++) {
            s.append(i > 0 ? " " : "").append(x.line(motion, i, 0)).append(x.line(motion, i, 1) == 1 ? "!" : "");
            s.append(x.line(motion, i, 2) == CardHall.NONE ? "" : "@" + x.line(motion, i, 2));
        }
        asked++;
        if (!s.toString().equals(want)) {
            wrong++;
            System.out.println("promise " + promise + ": lines of " + motion + " are " + s + ", due is " + want);
        }
    }

    static void finish(String name) {
        System.out.println(name + ": " + asked + " asked, " + wrong + " wrong");
        if (wrong > 0) {
            System.exit(1);
        }
    }
}
