import java.util.ArrayList;
import java.util.List;
import java.util.NoSuchElementException;

/** Long runs of calls, some sensible and some wild, of CardHall beside Model: each answer must be the same. */
public final class RandomRuns {
    private final List<String> calls = new ArrayList<>();
    private final CardHall x = new CardHall();
    private final Model y = new Model();
    private final int flavour;
    private long seed;
    private int wrong = 0;

    private RandomRuns(long seed) {
        this.seed = seed * 7919 + 17;
        this.flavour = (int) (seed % 4);
    }

    public static void main(String[] args) {
        int runs = args.length > 0 ? Integer.parseInt(args[0]) : 80;
        int first = args.length > 1 ? Integer.parseInt(args[1]) : 0;
        for (int i = first; i < first + runs; i++) {
            RandomRuns run = new RandomRuns(i);
            run.go(i);
            if (run.wrong > 0) {
                System.out.println("run " + i + " differs");
                System.exit(1);
            }
        }
        System.out.println("RandomRuns: " + runs + " runs as the model has them");
    }

    private int pick(int n) {
        seed = seed * 6364136223846793005L + 1442695040888963407L;
        return (int) ((seed >>> 33) % n);
    }

    /** Mostly a number below n, now and then one that is not. */
    private int near(int n) {
        int wild = pick(40);
        return wild == 0 ? n : wild == 1 ? -1 : wild == 2 ? pick(1 << 30) - (1 << 29) : pick(Math.max(1, n));
    }

    private void same(String call, long got, long due) {
        calls.add(call + " = " + due);
        if (got != due && wrong++ == 0) {
            for (String c : calls.subList(Math.max(0, calls.size() - 80), calls.size())) {
                System.out.println(c);
            }
            System.out.println(call + " answered " + got + ", the model " + due);
        }
    }

    private static long b(boolean v) {
        return v ? 1 : 0;
    }

    private void go(int number) {
        int steps = 200 + pick(312);
        for (int i = 0; i < 3 + pick(10); i++) {
            addAffiliate();
        }
        if (flavour != 0) {
            putText(orders());
            same("orders()", x.orders(), y.orders());
        }
        for (int i = 0; i < 3; i++) {
            putText(motion());
            same("motion", x.motion(i), y.motion(i));
        }
        for (int i = 0; i < steps && wrong == 0; i++) {
            step();
            if (i % 5 == 0) {
                look();
            }
        }
        look();
    }

    private void addAffiliate() {
        int s = near(6);
        same("affiliate(" + s + ")", x.affiliate(s), y.affiliate(s));
        int a = x.count(1) - 1;
        int souls = 1 + pick(30);
        same("branch(" + a + "," + souls + ")", x.branch(a, souls), y.branch(a, souls));
        int heads = pick(200);
        int dues = pick(3000);
        same("heads", b(x.heads(a, heads)), b(y.heads(a, heads)));
        same("dues", b(x.dues(a, dues)), b(y.dues(a, dues)));
    }

    private int matter() {
        int sort = pick(10);
        return sort < 5 ? near(x.count(4)) : sort < 8 ? 100 + near(x.count(5)) : sort == 8 ? 200 + near(x.count(6)) : near(260);
    }

    private int openMatter() {
        for (int i = 0; i < 12; i++) {
            int m = matter();
            if (x.how(m) == 0) {
                return m;
            }
        }
        return matter();
    }

    private int openBits(int most) {
        int bits = 0;
        int want = 1 + pick(most);
        for (int i = 0; i < 30 && Integer.bitCount(bits) < want; i++) {
            int m = pick(Math.max(1, x.count(4)));
            bits |= x.how(m) == 0 || pick(40) == 0 ? 1 << m : 0;
        }
        return pick(60) == 0 ? pick(1 << 30) * 2 : bits;
    }

    private void step() {
        int a = near(x.count(1));
        int m = matter();
        int v = near(4);
        switch (pick(28)) {
            case 0: addBranch(a); break;
            case 1: case 2: tellMoney(a); break;
            case 3: case 4: case 5: tellMandates(); break;
            case 6: case 7: case 8: tellCasts(); break;
            case 9: passDays(); break;
            case 10: case 11: case 12: putText(motion()); same("motion(" + a + ")", x.motion(a), y.motion(a)); places(); break;
            case 13: case 14: putText(amendment()); amendOne(); break;
            case 15: putText(orders()); same("orders()", x.orders(), y.orders()); places(); break;
            case 16: case 17: decideOne(); break;
            case 18: case 19: same("voids(" + a + ")", x.voids(a), y.voids(a)); break;
            case 20: composeSome(); break;
            case 21: groupSome(); break;
            case 22: tellWorths(); break;
            case 23: orderSome(a); break;
            case 24: sameDeal(); break;
            case 25: for (int h = -1; h < 5; h++) { int o = openMatter(); same("would(" + o + "," + h + ")", x.would(o, h), y.would(o, h)); } break;
            case 26: if (pick(8) == 0) { addAffiliate(); } break;
            default: wildTape(); break;
        }
        askAbout(a, m, v);
    }

    private void askAbout(int a, int m, int v) {
        int known = near(x.count(0) + 1);
        same("paid(" + a + "," + known + ")", x.paid(a, known), y.paid(a, known));
        same("cards(" + a + "," + known + ")", x.cards(a, known), y.cards(a, known));
        same("voice(" + a + "," + m + "," + known + "," + v + ")", x.voice(a, m, known, v), y.voice(a, m, known, v));
        same("counted(" + m + "," + known + "," + v + ")", x.counted(m, known, v), y.counted(m, known, v));
        same("broken(" + m + "," + known + ")", x.broken(m, known), y.broken(m, known));
    }

    private void addBranch(int a) {
        int souls = pick(30) == 0 ? near(1001) : 1 + pick(40);
        same("branch(" + a + "," + souls + ")", x.branch(a, souls), y.branch(a, souls));
    }

    private void tellMoney(int a) {
        int h = pick(20) == 0 ? near(10001) : pick(300);
        int d = pick(20) == 0 ? near(100001) : pick(4000);
        same("heads(" + a + "," + h + ")", b(x.heads(a, h)), b(y.heads(a, h)));
        same("dues(" + a + "," + d + ")", b(x.dues(a, d)), b(y.dues(a, d)));
    }

    private void tellMandates() {
        int m = openMatter();
        for (int i = 0; i < 3; i++) {
            int br = near(x.count(2));
            int v = pick(20) == 0 ? near(4) : pick(3);
            same("mandate(" + br + "," + m + "," + v + ")", b(x.mandate(br, m, v)), b(y.mandate(br, m, v)));
        }
    }

    private void tellCasts() {
        int m = openMatter();
        for (int i = 0; i < 3; i++) {
            int a = near(x.count(1));
            int v = pick(20) == 0 ? near(5) : pick(6) == 0 ? 2 + pick(2) : pick(2);
            same("casts(" + a + "," + m + "," + v + ")", b(x.casts(a, m, v)), b(y.casts(a, m, v)));
        }
    }

    private void passDays() {
        int n = pick(20) == 0 ? near(1002) : pick(4);
        same("day(" + n + ")", x.day(n), y.day(n));
        int c = pick(3) == 0 ? x.count(0) + pick(6) - 2 : pick(20) == 0 ? near(100002) : -1;
        same("closing(" + c + ")", b(x.closing(c)), b(y.closing(c)));
    }

    private void amendOne() {
        int m = near(x.count(4));
        for (int i = 0; i < 8 && x.how(m) != 0; i++) {
            m = near(x.count(4));
        }
        same("amend(" + m + ")", x.amend(m), y.amend(m));
        places();
    }

    private void decideOne() {
        int m = openMatter();
        same("decide(" + m + ")", x.decide(m), y.decide(m));
        if (pick(2) == 0) {
            for (int i = 0; i < 3; i++) {
                int a = near(x.count(1));
                same("voids(" + a + ")", x.voids(a), y.voids(a));
            }
        }
    }

    private void composeSome() {
        int bits = openBits(4);
        same("lost(" + bits + ")", x.lost(bits), y.lost(bits));
        if (pick(3) == 0) {
            same("composite(" + bits + ")", x.composite(bits), y.composite(bits));
        }
    }

    private void groupSome() {
        int bits = openBits(pick(12) == 0 ? 9 : 5);
        for (int n = 0; n < 5; n++) {
            same("group(" + bits + "," + n + ")", x.group(bits, n), y.group(bits, n));
            int m = near(x.count(4));
            same("grouped(" + bits + "," + n + "," + m + ")", x.grouped(bits, n, m), y.grouped(bits, n, m));
        }
    }

    private void tellWorths() {
        for (int i = 0; i < 12; i++) {
            int a = near(x.count(1));
            int m = near(x.count(4));
            int v = pick(20) == 0 ? near(12) : pick(19) - 9;
            same("worth(" + a + "," + m + "," + v + ")", b(x.worth(a, m, v)), b(y.worth(a, m, v)));
        }
    }

    private void orderSome(int a) {
        int bits = openBits(pick(6) == 0 ? 5 : 4);
        int figures = 0;
        List<Integer> left = new ArrayList<>();
        for (int i = 1; i <= Integer.bitCount(bits); i++) {
            left.add(i);
        }
        while (!left.isEmpty()) {
            figures = figures * 10 + left.remove(pick(left.size()));
        }
        int wild = pick(12) == 0 ? near(70000) : figures;
        same("inOrder(" + bits + "," + wild + "," + a + ")", x.inOrder(bits, wild, a), y.inOrder(bits, wild, a));
        for (int what = -2; what < 6; what++) {
            same("best(" + bits + "," + a + "," + what + ")", x.best(bits, a, what), y.best(bits, a, what));
        }
    }

    private void sameDeal() {
        if (pick(4) == 0) {
            for (int what = -1; what < 7; what++) {
                same("deal(" + what + ")", x.deal(what), y.deal(what));
            }
        }
    }

    private void wildTape() {
        int n = near(x.count(9) + 2);
        same("end(" + n + ")", x.end(n), y.end(n));
        int w = (32 << 24) + (115 << 16) + (97 << 8) + 121;
        int odd = pick(1 << 30) * 4 + pick(4);
        same("feed", x.feed(w, odd, w, w, w), y.feed(w, odd, w, w, w));
    }

    private void places() {
        same("place()", x.place(), y.place);
    }

    private void look() {
        for (int m = -1; m < 215; m++) {
            same("how(" + m + ")", x.how(m), y.how(m));
        }
        for (int m = -1; m < 25; m++) {
            for (int i = -1; i < 13; i++) {
                for (int w = -1; w < 4; w++) {
                    same("line(" + m + "," + i + "," + w + ")", x.line(m, i, w), y.line(m, i, w));
                }
            }
        }
        for (int n = -1; n < 63; n++) {
            same("stands(" + n + ")", x.stands(n), y.stands(n));
        }
        for (int w = -1; w < 13; w++) {
            same("count(" + w + ")", x.count(w), y.count(w));
        }
        int k = near(x.count(8));
        for (int w = -1; w < 8; w++) {
            same("row(" + k + "," + w + ")", rowOf(k, w, true), rowOf(k, w, false));
        }
    }

    private int rowOf(int k, int w, boolean ofX) {
        try {
            return ofX ? x.row(k, w) : y.row(k, w);
        } catch (NoSuchElementException e) {
            return -99;
        }
    }

    // ---- texts

    private void putText(String text) {
        same("end(0)", x.end(0), y.end(0));
        String t = text.length() > 300 ? text.substring(0, 300) : text;
        for (int i = 0; i < t.length(); i += 20) {
            int[] w = new int[5];
            for (int k = 0; k < 20; k++) {
                int c = i + k < t.length() ? t.charAt(i + k) : 32;
                w[k / 4] = w[k / 4] << 8 | c;
            }
            same("feed", x.feed(w[0], w[1], w[2], w[3], w[4]), y.feed(w));
        }
        same("end(" + t.length() + ") of " + t, x.end(t.length()), y.end(t.length()));
    }

    private String spoilt(String text) {
        if (pick(5) != 0 || text.isEmpty()) {
            return text;
        }
        StringBuilder s = new StringBuilder(text);
        int at = pick(s.length());
        String odd = ";;not[]()<>=+-*/ 09az\n!and";
        switch (pick(4)) {
            case 0: s.setLength(at); break;
            case 1: s.deleteCharAt(at); break;
            case 2: s.insert(at, odd.charAt(pick(odd.length()))); break;
            default: s.setCharAt(at, pick(6) == 0 ? (char) pick(256) : odd.charAt(pick(odd.length()))); break;
        }
        return s.toString();
    }

    private String gap() {
        return pick(9) == 0 ? " \n" : pick(3) == 0 ? " " : "";
    }

    private String motion() {
        StringBuilder s = new StringBuilder();
        // Of these runs some need LINES enough to go beyond the usual length.
        int lines = pick(25) == 0 ? 12 + pick(2) : flavour == 0 && pick(2) == 0 ? 4 + pick(5) : 1 + pick(4);
        int span = lines > 5 ? 60 : 12;
        int n = pick(span);
        for (int i = 0; i < lines; i++) {
            n = pick(30) == 0 ? pick(62) - 1 : n + 1 + pick(span / 12 + 1);
            s.append("say ").append(pick(3) == 0 ? "not " : "").append(pick(30) == 0 ? n : (n - 1) % 60 + 1)
                .append(pick(4) == 0 ? " must" : "").append(gap()).append(";").append(gap());
        }
        return spoilt(s.toString());
    }

    private String amendment() {
        StringBuilder s = new StringBuilder();
        int many = pick(25) == 0 ? 6 + pick(2) : 1 + pick(3);
        for (int i = 0; i < many; i++) {
            int sort = pick(3);
            s.append(sort == 0 ? "strike " : sort == 1 ? "turn " : pick(3) == 0 ? "add not " : "add ")
                .append(pick(40) == 0 ? 60 + pick(3) : 1 + pick(16)).append(gap()).append(";").append(gap());
        }
        return spoilt(s.toString());
    }

    private String orders() {
        StringBuilder s = new StringBuilder();
        int many = pick(25) == 0 ? 16 : pick(6);
        for (int i = 0; i < many; i++) {
            s.append(many > 10 && pick(20) != 0 ? "bind" : clause()).append(gap()).append(";").append(gap());
        }
        return spoilt(s.toString());
    }

    private String clause() {
        switch (pick(8)) {
            case 0: return "cards " + sum(0, "heads", "branches", "souls", "section", "1", "100", "9999");
            case 1: return "rate " + (pick(15) == 0 ? near(1001) : 1 + pick(40));
            case 2: return "length " + (pick(15) == 0 ? near(14) : 1 + pick(6));
            case 3: return "bind";
            case 4: return "late if " + condition(0, "heads", "lines", "day", "2", "100");
            case 5: return "pass amend if " + condition(0, "yes", "no", "all", "sections", "against", "day", "2", "50");
            case 6: return "pass order if " + condition(0, "yes", "no", "all", "sections", "against", "day", "0", "50");
            default: return "pass motion if " + (pick(2) == 0 ? "yes > no" : "yes * " + (1 + pick(4)) + " > all")
                + (pick(2) == 0 ? " and against = 0" : pick(2) == 0 ? " or sections > 2"
                : " and not " + condition(1, "yes", "no", "all", "sections", "against", "day", "3", "60"));
        }
    }

    private String condition(int depth, String... names) {
        String s = part(depth, names);
        while (pick(3) == 0) {
            s += (pick(2) == 0 ? " and " : " or ") + part(depth, names);
        }
        return s;
    }

    private String part(int depth, String... names) {
        String not = pick(5) == 0 ? "not " : "";
        if (depth < 5 && pick(4) == 0) {
            return not + "[" + gap() + condition(depth + 1, names) + "]" + gap();
        }
        return not + sum(depth, names) + gap() + "<>=".charAt(pick(3)) + gap() + sum(depth, names);
    }

    private String sum(int depth, String... names) {
        String s = factor(depth, names);
        while (pick(3) == 0) {
            s += gap() + "+-*/".charAt(pick(4)) + gap() + factor(depth, names);
        }
        return s;
    }

    private String factor(int depth, String... names) {
        if (depth < 5 && pick(6) == 0) {
            return "(" + sum(depth + 1, names) + ")";
        }
        return pick(60) == 0 ? "hall" : pick(60) == 0 ? "12345" : names[pick(names.length)];
    }
}
