import java.util.ArrayList;
import java.util.List;

/**
 * A call that is refused, and one that only asks, changes nothing: an object that was called so answers all that
 * comes behind it as its twin does that was not. What a FAULT or a LATE MOTION changes (the TAPE, the place) is told.
 */
public final class RefusedTest {
    private static final int MIN = Integer.MIN_VALUE;
    private static final int MAX = Integer.MAX_VALUE;
    private static final int[] WILD = {MIN, -1000, -2, -1, 300, 1 << 24, MAX};

    /** Makes an object; a new one of the same each time. */
    private interface Maker {
        CardHall make();
    }

    /** A call; its answer as a number (a boolean 1 or 0, row's exception -99). */
    private interface Call {
        long on(CardHall x);
    }

    private record Named(String name, Call call, long due) { }

    /** Stands for an answer that is not asked for here (a call that is not refused, but changes nothing). */
    private static final long ANY = Long.MIN_VALUE;

    public static void main(String[] args) {
        beside("a new object", CardHall::new, ofNew());
        beside("some of each", RefusedTest::some, ofSome());
        beside("all there can be", RefusedTest::full, ofFull());
        beside("600 tellings", RefusedTest::toldOut, ofToldOut());
        faults();
        Check.finish("RefusedTest");
    }

    // ---- the objects

    /** Each state of a MATTER, a CLOSING gone by, a TAPE, a FAULT's place, bind, and a DECISION that can be made anew. */
    private static CardHall some() {
        CardHall x = Check.hall(10, 6, 3, 2);
        x.branch(0, 7);
        x.branch(2, 30);
        Check.orders(x, "bind; length 3; cards heads + section; pass amend if yes > no and against < 2;");
        Check.orders(x, "rate 5;");
        Check.orders(x, "");
        String[] texts = {"say 1; say 2 must;", "say not 1; say 3;", "say 4;", "say 5; say 6;", "say 7;", "say 8; say 9 must;", "say not 9;",
            "say 10; say not 2;"};
        for (String text : texts) {
            Check.motion(x, x.count(4) % 4, text);
        }
        String[] amendments = {"add 11; turn 8;", "strike 10;", "add 12;", "add 2;", "add 13;"};
        int[] on = {5, 7, 3, 1, 6};
        for (int i = 0; i < amendments.length; i++) {
            Check.amend(x, on[i], amendments[i]);
        }
        x.casts(0, 0, 1);
        x.casts(0, 101, 1);
        x.decide(101);
        x.decide(0);
        x.casts(1, 202, 0);
        x.decide(202);
        x.composite(0b11000);
        x.day(2);
        for (int b = 0; b < 6; b++) {
            x.mandate(b, 5, b % 3);
            x.mandate(b, 6, (b + 1) % 3);
        }
        x.casts(1, 5, 1);
        x.casts(3, 6, 0);
        x.casts(3, 5, 1);
        for (int a = 0; a < 4; a++) {
            for (int m = 0; m < 9; m++) {
                x.worth(a, m, (a * 5 + m * 3) % 9 - 4);
            }
        }
        x.casts(0, 2, 0);
        x.casts(1, 2, 0);
        x.casts(2, 2, 1);
        x.decide(2);
        x.closing(1);
        Check.orders(x, "rate 5; late if lines;");
        Check.put(x, "say 20; say not 9; sa");
        return x;
    }

    /** All numbers are taken, the TAPE is full, and the latest DECISION can be made anew. */
    private static CardHall full() {
        CardHall x = EdgesOfTellingTest.fullHall();
        x.casts(0, 3, 1);
        x.casts(1, 3, 0);
        x.casts(0, 139, 1);
        x.decide(139);
        x.decide(3);
        x.day(1000);
        Check.put(x, "say 1; say 2;" + " ".repeat(287));
        return x;
    }

    private static CardHall toldOut() {
        CardHall x = some();
        while (x.count(3) < 600) {
            x.dues(x.count(3) % 4, x.count(3));
        }
        return x;
    }

    // ---- what is refused, or asked

    private static final class Calls {
        final List<Named> list = new ArrayList<>();

        void none(String name, Call call) {
            list.add(new Named(name, call, -1));
        }

        void no(String name, Call call) {
            list.add(new Named(name, call, 0));
        }

        void gone(String name, Call call) {
            list.add(new Named(name, call, -1000));
        }

        void ask(String name, Call call) {
            list.add(new Named(name, call, ANY));
        }
    }

    private static long b(boolean v) {
        return v ? 1 : 0;
    }

    /** Refused in whatever state, for no number of these can be. */
    private static Calls wild() {
        Calls c = new Calls();
        for (int w : WILD) {
            c.none("affiliate " + w, x -> x.affiliate(w));
            c.none("branch " + w, x -> x.branch(w, 5));
            c.none("souls " + w, x -> x.branch(0, w == 300 ? 1000 : w));
            c.no("heads of " + w, x -> b(x.heads(w, 5)));
            c.no("heads " + w, x -> b(x.heads(0, w == 300 ? 10000 : w)));
            c.no("dues of " + w, x -> b(x.dues(w, 5)));
            c.no("dues " + w, x -> b(x.dues(0, w == 300 ? 100000 : w)));
            c.no("mandate of " + w, x -> b(x.mandate(w, 0, 1)));
            c.no("mandate on " + w, x -> b(x.mandate(0, w, 1)));
            c.no("mandate " + w, x -> b(x.mandate(0, 0, w == 300 ? 3 : w)));
            c.no("casts of " + w, x -> b(x.casts(w, 0, 1)));
            c.no("casts on " + w, x -> b(x.casts(0, w, 1)));
            c.no("casts " + w, x -> b(x.casts(0, 0, w == 300 ? 4 : w)));
            c.none("day " + w, x -> x.day(w == 300 ? 1001 : w));
            c.no("closing " + w, x -> b(x.closing(w == -1 ? -3 : w == 300 ? 100001 : w)));
            c.none("end " + w, x -> x.end(w == 300 ? 301 : w));
            c.none("motion of " + w, x -> x.motion(w));
            c.none("amend " + w, x -> x.amend(w));
            c.none("paid of " + w, x -> x.paid(w, 0));
            c.none("paid on " + w, x -> x.paid(0, w == 300 ? 5000 : w));
            c.none("cards of " + w, x -> x.cards(w, 0));
            c.none("voice of " + w, x -> x.voice(w, 0, 0, 0));
            c.none("voice on " + w, x -> x.voice(0, w, 0, 0));
            c.none("counted " + w, x -> x.counted(w, 0, 0));
            c.none("counted what " + w, x -> x.counted(0, 0, w));
            c.none("broken " + w, x -> x.broken(w, 0));
            c.none("decide " + w, x -> x.decide(w));
            c.none("voids " + w, x -> x.voids(w));
            c.ask("row " + w, x -> Check.row(x, w, 0));
            c.ask("row what " + w, x -> Check.row(x, 0, w));
            c.none("how " + w, x -> x.how(w));
            c.none("line " + w, x -> x.line(w, 0, 1));
            c.ask("stands " + w, x -> x.stands(w));
            c.none("lost " + w, x -> x.lost(w == 300 ? 1 : w));
            c.none("composite " + w, x -> x.composite(w == 300 ? 1 : w));
            c.none("group " + w, x -> x.group(w == 300 ? 0 : w, 3));
            c.none("group in " + w, x -> x.group(1 << 5, w));
            c.none("grouped " + w, x -> x.grouped(w == 300 ? 0 : w, 3, 0));
            c.none("would " + w, x -> x.would(w, 0));
            c.none("would by " + w, x -> x.would(5, w));
            c.no("worth of " + w, x -> b(x.worth(w, 0, 1)));
            c.no("worth for " + w, x -> b(x.worth(0, w, 1)));
            c.no("worth " + w, x -> b(x.worth(0, 0, w == -1 || w == -2 ? w - 9 : w)));
            c.gone("in order " + w, x -> x.inOrder(w == 300 ? 0 : w, 12, 0));
            c.gone("in order " + w + " as told", x -> x.inOrder(1 << 5, w, 0));
            c.gone("best " + w, x -> x.best(w == 300 ? 0 : w, 0, -1));
            c.gone("best for " + w, x -> x.best(1 << 5, w, -1));
            c.gone("best at " + w, x -> x.best(1 << 5, 0, w == -1 ? 1 : w));
            c.none("deal " + w, x -> x.deal(w));
            c.none("count " + w, x -> x.count(w));
        }
        return c;
    }

    /** What only asks, whatever its answer. */
    private static void asking(Calls c) {
        for (int k = -1; k < 13; k++) {
            int n = k;
            c.ask("count " + n, x -> x.count(n));
            c.ask("deal " + n, x -> x.deal(n));
            c.ask("paid " + n, x -> x.paid(n, 0));
            c.ask("cards " + n, x -> x.cards(n, 0));
            c.ask("how " + n, x -> x.how(n));
            c.ask("line " + n, x -> x.line(n, 0, 0));
            c.ask("stands " + n, x -> x.stands(n));
            c.ask("row " + n, x -> Check.row(x, n, n % 7));
            c.ask("would " + n, x -> x.would(n, n % 4));
            c.ask("broken " + n, x -> x.broken(n, 0));
            c.ask("counted " + n, x -> x.counted(n, 0, n % 4));
            c.ask("voice " + n, x -> x.voice(0, n, 0, n % 2));
        }
        for (int bits : new int[] {3, 0b1100000, 0b11100000, 0b101100000, 0xff << 10, 0x3f << 10, 1 << 23 | 1, 1 << 5}) {
            c.ask("lost " + bits, x -> x.lost(bits));
            c.ask("group " + bits, x -> x.group(bits, 2));
            c.ask("grouped " + bits, x -> x.grouped(bits, 3, 6));
            c.ask("in order " + bits, x -> x.inOrder(bits, 21, 0));
            c.ask("best " + bits, x -> x.best(bits, 1, -1));
        }
        c.ask("place", CardHall::place);
    }

    private static Calls ofNew() {
        Calls c = wild();
        asking(c);
        c.none("decide", x -> x.decide(0));
        c.none("voids", x -> x.voids(0));
        c.none("motion", x -> x.motion(0));
        c.none("amend", x -> x.amend(0));
        c.none("composite", x -> x.composite(3));
        c.none("branch", x -> x.branch(0, 1));
        c.none("end", x -> x.end(1));
        c.no("heads", x -> b(x.heads(0, 1)));
        c.no("worth", x -> b(x.worth(0, 0, 1)));
        return c;
    }

    private static Calls ofSome() {
        Calls c = wild();
        asking(c);
        // MOTIONS: 0 passed, 1 fallen, 2 lost, 3 and 4 composed to 8; AMENDMENTS: 101 passed, 102 and 103 fallen.
        for (int m : new int[] {0, 1, 2, 3, 4, 101, 102, 103, 200, 202}) {
            c.none("decide " + m, x -> x.decide(m));
            c.none("would " + m, x -> x.would(m, 0));
            for (int v = 0; v <= 3; v++) {
                int value = v;
                c.no("casts " + v + " on " + m, x -> b(x.casts(0, m, value)));
            }
        }
        for (int m : new int[] {0, 1, 2, 3, 4, 9, 23, 100}) {
            c.none("amend " + m, x -> x.amend(m));
        }
        for (int m = 0; m < 5; m++) {
            int bits = 1 << m | 1 << 5;
            c.none("composite with " + m, x -> x.composite(bits));
            c.gone("in order with " + m, x -> x.inOrder(bits, 12, 0));
        }
        c.none("composite of contrary ones", x -> x.composite(0b1100000));
        c.none("composite of one", x -> x.composite(1 << 5));
        c.none("composite of one that is not", x -> x.composite(1 << 5 | 1 << 9));
        c.no("barred by bind", x -> b(x.casts(0, 5, 1)));
        c.no("barred by bind, nothing", x -> b(x.casts(0, 5, 2)));
        c.none("motion of a fifth", x -> x.motion(4));
        c.none("branch of a fifth", x -> x.branch(4, 1));
        c.none("no voice to be void", x -> x.voids(3));
        c.none("end of more than there is", x -> x.end(22));
        c.none("a day behind the last", x -> x.paid(0, 3));
        c.gone("a figure twice", x -> x.inOrder(0b11100000, 122, 0));
        return c;
    }

    private static Calls ofFull() {
        Calls c = wild();
        asking(c);
        c.none("a 13th affiliate", x -> x.affiliate(0));
        c.none("a 49th branch", x -> x.branch(11, 1));
        c.none("feed", x -> x.feed(1, 2, 3, 4, 5));
        c.none("an 11th orders", CardHall::orders);
        c.none("a 25th motion", x -> x.motion(0));
        c.none("a 41st amendment", x -> x.amend(0));
        c.none("a 25th composite", x -> x.composite(0b110));
        c.none("decided", x -> x.decide(3));
        c.none("passed", x -> x.decide(139));
        c.none("no such branch", x -> b(x.mandate(48, 0, 1)) - 1);
        return c;
    }

    private static Calls ofToldOut() {
        Calls c = new Calls();
        for (int v = 0; v <= 3; v++) {
            int value = v;
            c.no("a 601st heads", x -> b(x.heads(value, 9)));
            c.no("a 601st dues", x -> b(x.dues(value, 9)));
            c.no("a 601st mandate", x -> b(x.mandate(value, 5, value % 3)));
            c.no("a 601st casts", x -> b(x.casts(3, 6, value)));
        }
        return c;
    }

    // ---- the twins

    private static void beside(String name, Maker maker, Calls calls) {
        List<List<Long>> plain = tails(maker.make(), maker.make(), maker.make());
        for (Named n : calls.list) {
            CardHall[] three = {maker.make(), maker.make(), maker.make()};
            for (CardHall x : three) {
                long got = n.call.on(x);
                if (n.due != ANY) {
                    Check.due(36, name + ", " + n.name, got, n.due);
                }
            }
            Check.due(36, name + ", all behind " + n.name, tails(three[0], three[1], three[2]).equals(plain), true);
        }
        CardHall all = maker.make();
        CardHall[] three = {maker.make(), maker.make(), maker.make()};
        for (Named n : calls.list) {
            for (CardHall x : three) {
                n.call.on(x);
            }
        }
        Check.due(36, name + ", all behind all of these", tails(three[0], three[1], three[2]).equals(plain), true);
        Check.due(36, name + ", a look", look(all).equals(plain.get(0).subList(0, look(all).size())), true);
    }

    /** All that can be seen, and three ways to go on: cards are void; the TAPE is read; more of all comes. */
    private static List<List<Long>> tails(CardHall x, CardHall y, CardHall z) {
        List<Long> first = look(x);
        for (int a = 0; a < 12; a++) {
            first.add((long) x.voids(a));
        }
        first.addAll(look(x));
        List<Long> second = new ArrayList<>();
        second.add((long) y.motion(0));
        second.add((long) y.place());
        second.add(b(y.casts(3, 6, 3)));
        second.add((long) y.composite(0b10100000));
        second.addAll(look(y));
        return List.of(first, second, more(z));
    }

    private static List<Long> more(CardHall x) {
        List<Long> all = new ArrayList<>();
        all.add((long) x.affiliate(2));
        all.add((long) x.branch(0, 4));
        all.add(b(x.heads(0, 5)));
        all.add(b(x.mandate(0, 5, 0)));
        all.add((long) x.feed(0x20202020, 0x20202020, 0x20202020, 0x20202020, 0x20202020));
        all.add((long) Check.orders(x, "length 2;"));
        all.add((long) Check.motion(x, 0, "say 30;"));
        x.closing(-1);
        all.add((long) Check.motion(x, 0, "say 31;"));
        all.add((long) Check.amend(x, 5, "add 32;"));
        all.add((long) x.day(1));
        for (int m : new int[] {5, 6, 100, 201, 104, 7}) {
            all.add((long) x.decide(m));
        }
        all.addAll(look(x));
        return all;
    }

    private static List<Long> look(CardHall x) {
        List<Long> all = new ArrayList<>();
        for (int what = -1; what <= 12; what++) {
            all.add((long) x.count(what));
            all.add((long) x.deal(what));
        }
        all.add((long) x.place());
        int today = x.count(0);
        for (int a = 0; a < x.count(1); a++) {
            for (int day = Math.max(0, today - 2); day <= today; day++) {
                all.add((long) x.paid(a, day));
                all.add((long) x.cards(a, day));
            }
        }
        for (int m = 0; m < 211; m++) {
            all.add((long) x.how(m));
            if (x.how(m) != -1) {
                lookAt(x, m, today, all);
            }
        }
        for (int n = 1; n <= 60; n++) {
            all.add((long) x.stands(n));
        }
        for (int k = 0; k < x.count(8); k++) {
            for (int what = 0; what < 7; what++) {
                all.add((long) Check.row(x, k, what));
            }
        }
        lookAtBits(x, all);
        return all;
    }

    private static void lookAt(CardHall x, int m, int today, List<Long> all) {
        for (int what = 0; what < 4; what++) {
            all.add((long) x.counted(m, today, what));
            all.add((long) x.would(m, what));
        }
        all.add((long) x.broken(m, today));
        for (int a = 0; a < x.count(1); a++) {
            all.add((long) x.voice(a, m, today, 0) * 10 + x.voice(a, m, today, 1));
        }
        for (int i = 0; m < 24 && x.line(m, i, 0) != 0; i++) {
            all.add((long) x.line(m, i, 0) * 100 + x.line(m, i, 1) * 50 + x.line(m, i, 2));
        }
    }

    private static void lookAtBits(CardHall x, List<Long> all) {
        for (int bits : new int[] {0b1100000, 0b10100000, 0b111100000, 0x3f << 10}) {
            all.add((long) x.lost(bits));
            all.add((long) x.group(bits, 2));
            for (int a = 0; a < x.count(1); a++) {
                all.add((long) x.inOrder(bits, 21, a));
                all.add((long) x.best(bits, a, -1));
                all.add((long) x.best(bits, a, 0));
            }
        }
    }

    // ---- texts that are read and don't count

    /** "A text with a FAULT changes nothing": but the TAPE is empty then, and place tells of it. */
    private static void faults() {
        String[] bad = {"rate 0;", "bind; hall;", "cards zoo;", "cards (((((", "length 1; cards 3; pass motion if 1=2; bind", "say 1;",
            "late if 1=1; late if", "pass order if 1=2; 99999"};
        for (String text : bad) {
            emptied("orders of " + text, text, CardHall::orders, false);
        }
        String[] badMotions = {"", "say 0;", "say 1; say 1;", "say 1; say 2", "say 12345;", "add 1;", "say 61; say 1;"};
        for (String text : badMotions) {
            emptied("motion of " + text, text, x -> x.motion(1), false);
        }
        String[] badAmendments = {"", "say 1;", "turn 61;", "add 1; strike 5", "add 1;add 1;add 1;add 1;add 1;add 1;add 1;", "add not 00001;"};
        for (String text : badAmendments) {
            emptied("amend of " + text, text, x -> x.amend(5), false);
        }
        emptied("a late motion", "say 1; say 2;", x -> x.motion(1), true);
    }

    private static void emptied(String name, String text, Call read, boolean late) {
        List<CardHall> three = new ArrayList<>();
        List<CardHall> twins = new ArrayList<>();
        for (int i = 0; i < 3; i++) {
            CardHall x = some();
            Check.put(x, text);
            long got = read.on(x);
            Check.due(12, name + " is a fault", late ? got == -6 : got <= -2 && got >= -5, true);
            Check.due(12, name + ", the TAPE", x.count(9), 0);
            Check.due(15, name + ", the place", late ? x.place() == -1 : x.place() >= 0, true);
            three.add(x);
            CardHall twin = some();
            twin.end(0);
            twins.add(twin);
        }
        // A text without a FAULT is read by all, so that place is alike again, before they are looked at.
        for (CardHall x : List.of(three.get(0), three.get(1), three.get(2), twins.get(0), twins.get(1), twins.get(2))) {
            Check.put(x, "say 40;");
            Check.due(13, "a late one", x.motion(0), -6);
        }
        Check.due(12, "all behind " + name, tails(three.get(0), three.get(1), three.get(2))
            .equals(tails(twins.get(0), twins.get(1), twins.get(2))), true);
    }
}
