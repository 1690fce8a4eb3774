public final class Example {
    /** Puts a text on the TAPE: twenty bytes a call, the blanks behind its end cut off again. */
    static void put(CardHall hall, String text) {
        hall.end(0);
        for (int from = 0; from < text.length(); from += 20) {
            int[] four = new int[5];
            for (int k = 0; k < 20; k++) {
                int sign = from + k < text.length() ? text.charAt(from + k) : ' ';
                four[k / 4] = four[k / 4] << 8 | sign;
            }
            hall.feed(four[0], four[1], four[2], four[3], four[4]);
        }
        hall.end(text.length());
    }

    static void show(String what, int answer) {
        System.out.println(what + ": " + answer);
    }

    public static void main(String[] args) {
        CardHall hall = new CardHall();
        int steel = hall.affiliate(0);
        int rail = hall.affiliate(1);
        hall.heads(steel, 100);
        hall.dues(steel, 900);
        hall.heads(rail, 60);
        hall.dues(rail, 600);
        show("cards of steel", hall.cards(steel, 0));

        put(hall, "pass motion if yes * 2 > all; length 3; bind;");
        show("the first orders are number", hall.orders());

        put(hall, "say 1 must; say not 2;");
        int wages = hall.motion(steel);
        put(hall, "say not 2; say 3;");
        int hours = hall.motion(rail);
        put(hall, "say 4; say 61;");
        show("a fault of kind 2 (61 is no N)", hall.motion(rail));
        show("its place", hall.place());

        int branch = hall.branch(rail, 25);
        hall.mandate(branch, wages, 0);
        show("bound to no, rail may cast yes", hall.casts(rail, wages, 1) ? 1 : 0);
        hall.casts(steel, wages, 1);
        put(hall, "turn 2; add 5;");
        int change = 100 + hall.amend(wages);
        hall.casts(steel, change, 1);
        show("the amendment would pass with branches as 1", hall.would(change, 3));
        show("the amendment passes", hall.decide(change));
        show("line 1 of the motion is now", hall.line(wages, 1, 0));

        hall.day(1);
        show("a day later the motion passes", hall.decide(wages));
        show("1 stands", hall.stands(1));
        show("the other motion (0 open, 3 fallen) is", hall.how(hours));
        show("rows of decisions", hall.count(8));
        show("yes in the latest row", hall.row(1, 2));
        show("the card of steel is void: the motion passes", hall.voids(steel));
        show("1 stands no more", hall.stands(1));
        show("the other motion (0 open, 3 fallen) is", hall.how(hours));
        show("there is no affiliate 7", hall.voids(7));
        try {
            hall.row(2, 0);
        } catch (java.util.NoSuchElementException none) {
            System.out.println("there is no third row");
        }
    }
}
