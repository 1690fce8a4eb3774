import java.util.ArrayList;
import java.util.Arrays;
import java.util.Collections;
import java.util.Comparator;
import java.util.HashMap;
import java.util.List;
import java.util.Map;
import java.util.NoSuchElementException;
import java.util.TreeMap;
import java.util.TreeSet;

/** The document once more, written as plainly as can be and in another way, to hold CardHall against. */
final class Model {
    static final int NONE = -1;
    static final long MOST = 1000000000L;

    record Telling(int kind, int who, int matter, int day, int v) { }

    static final class Line {
        int n;
        boolean must;
        int by;

        Line(int n, boolean must, int by) {
            this.n = n;
            this.must = must;
            this.by = by;
        }

        Line same() {
            return new Line(n, must, by);
        }
    }

    record Change(String sort, int n) { }

    static final class Orders {
        final Map<String, List<String>> told = new HashMap<>();
        int rate = 10;
        int length = 12;
        boolean bind;
    }

    static final class State {
        final TreeMap<Integer, Integer> how = new TreeMap<>();
        final List<List<Line>> lines = new ArrayList<>();
        final TreeMap<Integer, Integer> stands = new TreeMap<>();
        int force = NONE;

        State same() {
            State s = new State();
            s.how.putAll(how);
            for (List<Line> row : lines) {
                s.lines.add(sameRow(row));
            }
            s.stands.putAll(stands);
            s.force = force;
            return s;
        }
    }

    static List<Line> sameRow(List<Line> row) {
        List<Line> rows = new ArrayList<>();
        for (Line l : row) {
            rows.add(l.same());
        }
        return rows;
    }

    static final class Fault extends RuntimeException {
        final int kind;
        final int place;

        Fault(int kind, int place) {
            this.kind = kind;
            this.place = place;
        }
    }

    final List<Integer> sections = new ArrayList<>();
    final List<int[]> branches = new ArrayList<>();
    final List<Telling> tellings = new ArrayList<>();
    final List<Integer> movers = new ArrayList<>();
    final List<Integer> hangs = new ArrayList<>();
    final List<List<Change>> changes = new ArrayList<>();
    final List<Orders> orders = new ArrayList<>();
    final Map<List<Integer>, Integer> worths = new HashMap<>();
    final List<int[]> rows = new ArrayList<>();
    State now = new State();
    State ahead = null;
    final TreeSet<Integer> voids = new TreeSet<>();
    StringBuilder tape = new StringBuilder();
    int today = 0;
    int closing = NONE;
    int place = NONE;

    // ---- telling

    int affiliate(int section) {
        if (section < 0 || section > 5 || sections.size() == 12) {
            return NONE;
        }
        sections.add(section);
        return sections.size() - 1;
    }

    boolean isAffiliate(int a) {
        return a >= 0 && a < sections.size();
    }

    int branch(int a, int souls) {
        if (!isAffiliate(a) || souls < 1 || souls > 999 || branches.size() == 48) {
            return NONE;
        }
        branches.add(new int[] {a, souls});
        return branches.size() - 1;
    }

    boolean tell(int kind, int who, int matter, int v) {
        if (tellings.size() == 600) {
            return false;
        }
        tellings.add(new Telling(kind, who, matter, today, v));
        return true;
    }

    boolean heads(int a, int n) {
        return isAffiliate(a) && n >= 0 && n <= 9999 && tell(0, a, NONE, n);
    }

    boolean dues(int a, int n) {
        return isAffiliate(a) && n >= 0 && n <= 99999 && tell(1, a, NONE, n);
    }

    boolean mandate(int b, int matter, int v) {
        return b >= 0 && b < branches.size() && now.how.containsKey(matter) && v >= 0 && v <= 2 && tell(2, b, matter, v);
    }

    boolean casts(int a, int matter, int v) {
        if (!isAffiliate(a) || how(matter) != 0 || v < 0 || v > 3) {
            return false;
        }
        int bound = mandateOf(a, matter, today);
        if (v != 3 && inForce().bind && bound != 2 && bound != v) {
            return false;
        }
        return tell(3, a, matter, v);
    }

    int day(int n) {
        if (n < 0 || n > 1000 || today + n > 100000) {
            return NONE;
        }
        today += n;
        return today;
    }

    boolean closing(int day) {
        if (day < -1 || day > 100000) {
            return false;
        }
        closing = day;
        return true;
    }

    int feed(int... five) {
        if (tape.length() + 20 > 300) {
            return NONE;
        }
        for (int n : five) {
            for (byte b : java.nio.ByteBuffer.allocate(4).putInt(n).array()) {
                tape.append((char) (b & 255));
            }
        }
        return tape.length();
    }

    int end(int n) {
        if (n < 0 || n > tape.length()) {
            return NONE;
        }
        tape.setLength(n);
        return n;
    }

    // ---- texts

    record Token(String text, int place) { }

    static List<Token> tokens(String text) {
        List<Token> all = new ArrayList<>();
        java.util.regex.Matcher m = java.util.regex.Pattern.compile("[a-z]+|[0-9]+|[^ \\n]", java.util.regex.Pattern.DOTALL)
            .matcher(text);
        while (m.find()) {
            all.add(new Token(m.group(), m.start()));
        }
        all.add(new Token("", text.length()));
        return all;
    }

    static boolean isN(String t) {
        return t.matches("[0-9]{1,4}");
    }

    static boolean isWord(String t) {
        return t.matches("[a-z]+");
    }

    static int number(Token t, int most) {
        if (!isN(t.text)) {
            throw new Fault(1, t.place);
        }
        int n = Integer.parseInt(t.text);
        if (n < 1 || n > most) {
            throw new Fault(2, t.place);
        }
        return n;
    }

    static void need(Token t, String... texts) {
        if (!Arrays.asList(texts).contains(t.text)) {
            throw new Fault(1, t.place);
        }
    }

    /** Walks over a condition (or a sum) by a stack of brackets; answers where it ends (its ";"). */
    static int walk(List<Token> all, int from, boolean condition, List<String> names) {
        StringBuilder open = new StringBuilder();
        String state = condition ? "part" : "factor";
        boolean right = false;
        for (int i = from;; i++) {
            Token t = all.get(i);
            char top = open.length() == 0 ? ' ' : open.charAt(open.length() - 1);
            if (state.equals("part")) {
                right = false;
                if (t.text.equals("not")) {
                    continue;
                }
                if (t.text.equals("[")) {
                    push(open, '[', t);
                    continue;
                }
                state = "factor";
            }
            if (state.equals("factor")) {
                if (t.text.equals("(")) {
                    push(open, '(', t);
                } else if (isN(t.text)) {
                    state = "behind";
                } else if (isWord(t.text)) {
                    if (!names.contains(t.text)) {
                        throw new Fault(3, t.place);
                    }
                    state = "behind";
                } else {
                    throw new Fault(1, t.place);
                }
            } else if (state.equals("behind") && "+-*/".contains(t.text) && !t.text.isEmpty()) {
                state = "factor";
            } else if (state.equals("behind") && top == '(') {
                need(t, ")");
                open.setLength(open.length() - 1);
            } else if (state.equals("behind") && condition && !right) {
                need(t, "<", ">", "=");
                right = true;
                state = "factor";
            } else if (!condition) {
                need(t, ";");
                return i;
            } else if (t.text.equals("and") || t.text.equals("or")) {
                state = "part";
            } else if (top == '[') {
                need(t, "]");
                open.setLength(open.length() - 1);
                state = "done";
            } else {
                need(t, ";");
                return i;
            }
        }
    }

    static void push(StringBuilder open, char bracket, Token t) {
        if (open.length() == 4) {
            throw new Fault(4, t.place);
        }
        open.append(bracket);
    }

    static final List<String> IN_PASS = List.of("yes", "no", "all", "sections", "against", "day");
    static final List<String> IN_CARDS = List.of("heads", "branches", "souls", "section");
    static final List<String> IN_LATE = List.of("heads", "lines", "day");

    static Orders readOrders(String text) {
        List<Token> all = tokens(text);
        Orders o = new Orders();
        int clauses = 0;
        int i = 0;
        while (!all.get(i).text.isEmpty()) {
            Token t = all.get(i);
            need(t, "pass", "cards", "rate", "length", "bind", "late");
            if (clauses == 15) {
                throw new Fault(4, t.place);
            }
            clauses++;
            i++;
            if (t.text.equals("pass")) {
                need(all.get(i), "motion", "amend", "order");
                need(all.get(i + 1), "if");
                i = keep(o, all.get(i).text, all, i + 2, IN_PASS);
            } else if (t.text.equals("late")) {
                need(all.get(i), "if");
                i = keep(o, "late", all, i + 1, IN_LATE);
            } else if (t.text.equals("cards")) {
                i = keep(o, "cards", all, i, IN_CARDS);
            } else if (t.text.equals("rate")) {
                o.rate = number(all.get(i), 999);
                i++;
            } else if (t.text.equals("length")) {
                o.length = number(all.get(i), 12);
                i++;
            } else {
                o.bind = true;
            }
            need(all.get(i), ";");
            i++;
        }
        return o;
    }

    private static int keep(Orders o, String what, List<Token> all, int from, List<String> names) {
        int end = walk(all, from, !what.equals("cards"), names);
        List<String> told = new ArrayList<>();
        for (Token t : all.subList(from, end)) {
            told.add(t.text);
        }
        o.told.put(what, told);
        return end;
    }

    static List<Line> readMotion(String text) {
        List<Token> all = tokens(text);
        List<Line> lines = new ArrayList<>();
        int i = 0;
        do {
            need(all.get(i), "say");
            if (lines.size() == 12) {
                throw new Fault(4, all.get(i).place);
            }
            i++;
            boolean not = all.get(i).text.equals("not");
            i += not ? 1 : 0;
            int n = number(all.get(i), 60);
            for (Line l : lines) {
                if (Math.abs(l.n) == n) {
                    throw new Fault(2, all.get(i).place);
                }
            }
            i++;
            boolean must = all.get(i).text.equals("must");
            i += must ? 1 : 0;
            need(all.get(i), ";");
            i++;
            lines.add(new Line(not ? -n : n, must, NONE));
        } while (!all.get(i).text.isEmpty());
        return lines;
    }

    static List<Change> readAmendment(String text) {
        List<Token> all = tokens(text);
        List<Change> list = new ArrayList<>();
        int i = 0;
        do {
            String sort = all.get(i).text;
            need(all.get(i), "strike", "add", "turn");
            if (list.size() == 6) {
                throw new Fault(4, all.get(i).place);
            }
            i++;
            boolean not = sort.equals("add") && all.get(i).text.equals("not");
            i += not ? 1 : 0;
            int n = number(all.get(i), 60);
            need(all.get(i + 1), ";");
            i += 2;
            list.add(new Change(sort, not ? -n : n));
        } while (!all.get(i).text.isEmpty());
        return list;
    }

    String takeTape() {
        String text = tape.toString();
        tape.setLength(0);
        place = NONE;
        return text;
    }

    int failed(Fault f) {
        place = f.place;
        return -1 - f.kind;
    }

    int orders() {
        if (orders.size() == 10) {
            return NONE;
        }
        try {
            orders.add(readOrders(takeTape()));
        } catch (Fault f) {
            return failed(f);
        }
        int n = orders.size() - 1;
        now.how.put(200 + n, n == 0 ? 1 : 0);
        if (n == 0) {
            now.force = 0;
        }
        ahead = null;
        return n;
    }

    int motion(int mover) {
        if (!isAffiliate(mover) || movers.size() == 24) {
            return NONE;
        }
        List<Line> lines;
        try {
            lines = readMotion(takeTape());
        } catch (Fault f) {
            return failed(f);
        }
        if (closing != NONE && today > closing) {
            Map<String, Long> facts = Map.of("heads", (long) paidHeads(mover, today),
                "lines", (long) lines.size(), "day", (long) today);
            if (!inForce().told.containsKey("late") || !holds(inForce().told.get("late"), facts)) {
                return -6;
            }
        }
        return bringMotion(mover, lines);
    }

    int bringMotion(int mover, List<Line> lines) {
        movers.add(mover);
        now.lines.add(lines);
        int n = movers.size() - 1;
        now.how.put(n, 0);
        ahead = null;
        return n;
    }

    int amend(int motion) {
        if (motion < 0 || motion >= movers.size() || how(motion) != 0 || hangs.size() == 40) {
            return NONE;
        }
        try {
            changes.add(readAmendment(takeTape()));
        } catch (Fault f) {
            return failed(f);
        }
        hangs.add(motion);
        now.how.put(100 + hangs.size() - 1, 0);
        ahead = null;
        return hangs.size() - 1;
    }

    // ---- conditions, read anew each time

    static boolean holds(List<String> told, Map<String, Long> facts) {
        return new Reading(told, facts).condition();
    }

    static final class Reading {
        final List<String> told;
        final Map<String, Long> facts;
        int i = 0;

        Reading(List<String> told, Map<String, Long> facts) {
            this.told = told;
            this.facts = facts;
        }

        String at() {
            return i < told.size() ? told.get(i) : "";
        }

        boolean condition() {
            boolean any = both();
            while (at().equals("or")) {
                i++;
                any |= both();
            }
            return any;
        }

        boolean both() {
            boolean every = part();
            while (at().equals("and")) {
                i++;
                every &= part();
            }
            return every;
        }

        boolean part() {
            if (at().equals("not")) {
                i++;
                return !part();
            }
            if (at().equals("[")) {
                i++;
                boolean inside = condition();
                i++;
                return inside;
            }
            long left = sum();
            String sign = at();
            i++;
            long right = sum();
            return sign.equals("<") ? left < right : sign.equals(">") ? left > right : left == right;
        }

        long sum() {
            long value = product();
            while (at().equals("+") || at().equals("-")) {
                int sign = at().equals("+") ? 1 : -1;
                i++;
                value = cut(value + sign * product());
            }
            return value;
        }

        long product() {
            long value = factor();
            while (at().equals("*") || at().equals("/")) {
                boolean times = at().equals("*");
                i++;
                long by = factor();
                value = times ? cut(value * by) : by == 0 ? 0 : value / by;
            }
            return value;
        }

        long factor() {
            String t = at();
            i++;
            if (t.equals("(")) {
                long inside = sum();
                i++;
                return inside;
            }
            return isN(t) ? Long.parseLong(t) : facts.get(t);
        }
    }

    static long cut(long v) {
        return Math.max(-MOST, Math.min(MOST, v));
    }

    // ---- what is known

    Orders inForce() {
        return now.force == NONE ? new Orders() : orders.get(now.force);
    }

    int told(int kind, int who, int matter, int known, int without) {
        int v = without;
        for (Telling t : tellings) {
            if (t.kind == kind && t.who == who && t.matter == matter && t.day <= known) {
                v = t.v;
            }
        }
        return v;
    }

    boolean known(int day) {
        return day >= 0 && day <= today;
    }

    int paidHeads(int a, int known) {
        return Math.min(told(0, a, NONE, known, 0), told(1, a, NONE, known, 0) / inForce().rate);
    }

    int paid(int a, int known) {
        return isAffiliate(a) && known(known) ? paidHeads(a, known) : NONE;
    }

    int cardsOf(int a, int known) {
        int paid = paidHeads(a, known);
        List<String> sum = inForce().told.get("cards");
        if (sum == null) {
            return paid;
        }
        long many = branches.stream().filter(b -> b[0] == a).count();
        long souls = branches.stream().filter(b -> b[0] == a).mapToLong(b -> b[1]).sum();
        long v = new Reading(sum, Map.of("heads", (long) paid, "branches", many, "souls", souls,
            "section", (long) sections.get(a))).sum();
        return (int) Math.max(0, v);
    }

    int cards(int a, int known) {
        return isAffiliate(a) && known(known) ? cardsOf(a, known) : NONE;
    }

    int mandateOf(int a, int matter, int known) {
        int balance = 0;
        for (int b = 0; b < branches.size(); b++) {
            if (branches.get(b)[0] == a) {
                int v = told(2, b, matter, known, 2);
                balance += v == 1 ? branches.get(b)[1] : v == 0 ? -branches.get(b)[1] : 0;
            }
        }
        return balance > 0 ? 1 : balance < 0 ? 0 : 2;
    }

    int voiceOf(int a, int matter, int known) {
        int cast = told(3, a, matter, known, 3);
        return cast == 3 ? mandateOf(a, matter, known) : cast;
    }

    int voice(int a, int matter, int known, int what) {
        if (!isAffiliate(a) || !now.how.containsKey(matter) || !known(known) || what < 0 || what > 1) {
            return NONE;
        }
        return what == 0 ? voiceOf(a, matter, known) : mandateOf(a, matter, known);
    }

    int broken(int matter, int known) {
        if (!now.how.containsKey(matter) || !known(known)) {
            return NONE;
        }
        int many = 0;
        for (int a = 0; a < sections.size(); a++) {
            int cast = told(3, a, matter, known, 3);
            int bound = mandateOf(a, matter, known);
            many += cast != 3 && bound != 2 && cast != bound ? 1 : 0;
        }
        return many;
    }

    /** YES, NO, ALL, SECTIONS by how; without some; one VOICE turned. */
    long[] count(int matter, int known, int how, TreeSet<Integer> without, int turned) {
        long[] sums = new long[4];
        long[] yes = new long[6];
        long[] no = new long[6];
        if (how == 3) {
            for (int b = 0; b < branches.size(); b++) {
                tally(sums, yes, no, sections.get(branches.get(b)[0]), told(2, b, matter, known, 2), 1);
            }
        } else {
            for (int a = 0; a < sections.size(); a++) {
                long w = how == 2 ? 1 : how == 1 ? paidHeads(a, known) : cardsOf(a, known);
                int v = voiceOf(a, matter, known);
                tally(sums, yes, no, sections.get(a), a == turned ? 1 - v : v, without.contains(a) ? 0 : w);
            }
        }
        for (int i = 0; i < 3; i++) {
            sums[i] = Math.min(MOST, sums[i]);
        }
        for (int s = 0; s < 6; s++) {
            sums[3] += yes[s] > no[s] ? 1 : 0;
        }
        return sums;
    }

    private static void tally(long[] sums, long[] yes, long[] no, int section, int v, long w) {
        sums[2] += w;
        if (v == 1) {
            sums[0] += w;
            yes[section] += w;
        } else if (v == 0) {
            sums[1] += w;
            no[section] += w;
        }
    }

    int counted(int matter, int known, int what) {
        if (!now.how.containsKey(matter) || !known(known) || what < 0 || what > 3) {
            return NONE;
        }
        return (int) count(matter, known, 0, new TreeSet<>(), NONE)[what];
    }

    // ---- deciding

    boolean passes(int matter, long[] sums, int against, int day) {
        List<String> told = inForce().told.get(matter >= 200 ? "order" : matter >= 100 ? "amend" : "motion");
        if (told == null) {
            return sums[0] > sums[1];
        }
        return holds(told, Map.of("yes", sums[0], "no", sums[1], "all", sums[2], "sections", sums[3],
            "against", (long) against, "day", (long) day));
    }

    static void done(List<Line> row, List<Change> list, int by) {
        for (Change c : list) {
            Line found = null;
            for (Line l : row) {
                if (Math.abs(l.n) == Math.abs(c.n)) {
                    found = l;
                }
            }
            if (c.sort.equals("strike") && found != null) {
                row.remove(found);
            } else if (c.sort.equals("add") && found == null && row.size() < 12) {
                row.add(new Line(c.n, false, by));
            } else if (c.sort.equals("turn") && found != null) {
                found.n = -found.n;
                found.by = by;
            }
        }
    }

    static int against(List<Line> row, Map<Integer, Integer> stands) {
        for (Line l : row) {
            if (stands.getOrDefault(Math.abs(l.n), 0) == -Integer.signum(l.n)) {
                return 1;
            }
        }
        return 0;
    }

    int against(int matter) {
        if (matter >= 200) {
            return 0;
        }
        if (matter < 100) {
            return against(now.lines.get(matter), now.stands);
        }
        List<Line> row = sameRow(now.lines.get(hangs.get(matter - 100)));
        done(row, changes.get(matter - 100), matter - 100);
        return against(row, now.stands);
    }

    static boolean contrary(List<Line> row, List<Line> other) {
        for (Line l : row) {
            for (Line k : other) {
                if (l.n == -k.n) {
                    return true;
                }
            }
        }
        return false;
    }

    void close(int motion, int how) {
        now.how.put(motion, how);
        for (int i = 0; i < hangs.size(); i++) {
            if (hangs.get(i) == motion && how(100 + i) == 0) {
                now.how.put(100 + i, 3);
            }
        }
    }

    int decide(int matter) {
        if (how(matter) != 0 || rows.size() == 100) {
            return NONE;
        }
        ahead = now.same();
        voids.clear();
        rows.add(new int[7]);
        return decideBy(matter, today);
    }

    int decideBy(int matter, int day) {
        long[] sums = count(matter, day, 0, voids, NONE);
        boolean passed = passes(matter, sums, against(matter), day);
        rows.set(rows.size() - 1, new int[] {matter, day, (int) sums[0], (int) sums[1], (int) sums[2],
            passed ? 1 : 0, voids.size()});
        if (matter >= 200) {
            now.how.put(matter, passed ? 1 : 2);
            now.force = passed ? matter - 200 : now.force;
        } else if (matter >= 100) {
            now.how.put(matter, passed ? 1 : 2);
            int motion = hangs.get(matter - 100);
            if (passed) {
                done(now.lines.get(motion), changes.get(matter - 100), matter - 100);
                if (now.lines.get(motion).isEmpty()) {
                    close(motion, 3);
                }
            }
        } else {
            close(matter, passed ? 1 : 2);
            if (passed) {
                for (Line l : now.lines.get(matter)) {
                    now.stands.put(Math.abs(l.n), Integer.signum(l.n));
                }
                for (int m = 0; m < movers.size(); m++) {
                    if (m != matter && how(m) == 0 && contrary(now.lines.get(m), now.lines.get(matter))) {
                        close(m, 3);
                    }
                }
            }
        }
        return passed ? 1 : 0;
    }

    int voids(int a) {
        if (ahead == null || !isAffiliate(a) || voids.contains(a)) {
            return NONE;
        }
        int[] last = rows.get(rows.size() - 1);
        if (voiceOf(a, last[0], last[1]) == 2) {
            return NONE;
        }
        voids.add(a);
        now = ahead.same();
        return decideBy(last[0], last[1]);
    }

    int row(int k, int what) {
        if (k < 0 || k >= rows.size() || what < 0 || what > 6) {
            throw new NoSuchElementException();
        }
        return rows.get(k)[what];
    }

    int how(int matter) {
        return now.how.getOrDefault(matter, NONE);
    }

    int line(int motion, int i, int what) {
        if (motion < 0 || motion >= movers.size() || i < 0 || i >= now.lines.get(motion).size() || what < 0 || what > 2) {
            return what == 0 ? 0 : NONE;
        }
        Line l = now.lines.get(motion).get(i);
        return what == 0 ? l.n : what == 1 ? (l.must ? 1 : 0) : l.by;
    }

    int stands(int n) {
        return n < 1 || n > 60 ? -2 : now.stands.getOrDefault(n, 0);
    }

    // ---- composing

    /** The MOTIONS of the bits, or null if they are not least to most OPEN ones. */
    List<Integer> chosen(int bits, int least, int most) {
        List<Integer> list = new ArrayList<>();
        for (int m = 0; m < 32; m++) {
            if ((bits & 1 << m) != 0) {
                if (how(m) != 0 || m >= 24) {
                    return null;
                }
                list.add(m);
            }
        }
        return list.size() < least || list.size() > most ? null : list;
    }

    List<Line> compose(List<Integer> motions) {
        TreeMap<Integer, Integer> times = new TreeMap<>();
        TreeMap<Integer, Integer> signs = new TreeMap<>();
        TreeSet<Integer> musts = new TreeSet<>();
        for (int m : motions) {
            for (Line l : now.lines.get(m)) {
                int n = Math.abs(l.n);
                times.merge(n, 1, Integer::sum);
                if (signs.getOrDefault(n, l.n) != l.n) {
                    return null;
                }
                signs.put(n, l.n);
                if (l.must) {
                    musts.add(n);
                }
            }
        }
        int length = inForce().length;
        if (musts.size() > length) {
            return null;
        }
        List<Integer> others = new ArrayList<>(times.keySet());
        others.removeAll(musts);
        others.sort(Comparator.comparing((Integer n) -> -times.get(n)).thenComparing(n -> n));
        TreeSet<Integer> kept = new TreeSet<>(musts);
        for (int n : others) {
            if (kept.size() < length) {
                kept.add(n);
            }
        }
        List<Line> lines = new ArrayList<>();
        for (int n : kept) {
            lines.add(new Line(signs.get(n), musts.contains(n), NONE));
        }
        return lines;
    }

    int lostOf(List<Integer> motions) {
        if (motions.size() == 1) {
            return 0;
        }
        List<Line> composed = compose(motions);
        if (composed == null) {
            return NONE;
        }
        int lost = 0;
        for (int m : motions) {
            for (Line l : now.lines.get(m)) {
                lost += composed.stream().anyMatch(c -> c.n == l.n) ? 0 : 1;
            }
        }
        return lost;
    }

    int lost(int bits) {
        List<Integer> motions = chosen(bits, 2, 8);
        return motions == null ? NONE : lostOf(motions);
    }

    int composite(int bits) {
        List<Integer> motions = chosen(bits, 2, 8);
        if (motions == null || movers.size() == 24 || compose(motions) == null) {
            return NONE;
        }
        int n = bringMotion(movers.get(motions.get(0)), compose(motions));
        for (int m : motions) {
            close(m, 4);
        }
        return n;
    }

    record Grouping(int lost, int groups, List<Integer> groupOf) { }

    Grouping best(int bits, int n) {
        List<Integer> motions = chosen(bits, 1, 8);
        if (motions == null || n < 1 || n > 8) {
            return null;
        }
        List<Grouping> found = new ArrayList<>();
        spread(motions, new ArrayList<>(), n, found);
        Comparator<Grouping> by = Comparator.comparing(Grouping::lost);
        by = by.thenComparing(Grouping::groups).thenComparing(g -> g.groupOf.toString());
        return found.isEmpty() ? null : Collections.min(found, by);
    }

    private void spread(List<Integer> motions, List<Integer> groupOf, int n, List<Grouping> found) {
        int groups = groupOf.isEmpty() ? 0 : Collections.max(groupOf) + 1;
        if (groupOf.size() == motions.size()) {
            int lost = 0;
            for (int g = 0; g < groups; g++) {
                List<Integer> in = new ArrayList<>();
                for (int i = 0; i < motions.size(); i++) {
                    if (groupOf.get(i) == g) {
                        in.add(motions.get(i));
                    }
                }
                int one = lostOf(in);
                if (one == NONE) {
                    return;
                }
                lost += one;
            }
            found.add(new Grouping(lost, groups, new ArrayList<>(groupOf)));
            return;
        }
        for (int g = 0; g <= groups && g < n; g++) {
            groupOf.add(g);
            spread(motions, groupOf, n, found);
            groupOf.remove(groupOf.size() - 1);
        }
    }

    int group(int bits, int n) {
        Grouping g = best(bits, n);
        return g == null ? NONE : g.lost;
    }

    int grouped(int bits, int n, int motion) {
        Grouping g = best(bits, n);
        int i = g == null ? NONE : chosen(bits, 1, 8).indexOf(motion);
        return i == NONE ? NONE : g.groupOf.get(i);
    }

    // ---- what would be

    int would(int matter, int how) {
        if (how(matter) != 0 || how < 0 || how > 3) {
            return NONE;
        }
        return passes(matter, count(matter, today, how, new TreeSet<>(), NONE), against(matter), today) ? 1 : 0;
    }

    boolean worth(int a, int motion, int v) {
        if (!isAffiliate(a) || motion < 0 || motion >= movers.size() || v < -9 || v > 9) {
            return false;
        }
        worths.put(List.of(a, motion), v);
        return true;
    }

    int worthOf(int a, int motion) {
        return worths.getOrDefault(List.of(a, motion), 0);
    }

    int along(List<Integer> order, int a) {
        TreeMap<Integer, Integer> stands = new TreeMap<>(now.stands);
        TreeSet<Integer> fallen = new TreeSet<>();
        int sum = 0;
        for (int m : order) {
            List<Line> row = now.lines.get(m);
            if (fallen.contains(m)
                || !passes(m, count(m, today, 0, new TreeSet<>(), NONE), against(row, stands), today)) {
                continue;
            }
            sum += worthOf(a, m);
            for (Line l : row) {
                stands.put(Math.abs(l.n), Integer.signum(l.n));
            }
            for (int other : order) {
                if (other != m && contrary(now.lines.get(other), row)) {
                    fallen.add(other);
                }
            }
        }
        return sum;
    }

    int inOrder(int bits, int order, int a) {
        List<Integer> motions = chosen(bits, 1, 6);
        if (motions == null || !isAffiliate(a)) {
            return -1000;
        }
        List<Integer> row = new ArrayList<>();
        for (char c : Integer.toString(order).toCharArray()) {
            int i = c - '1';
            if (i < 0 || i >= motions.size() || row.contains(motions.get(i))) {
                return -1000;
            }
            row.add(motions.get(i));
        }
        return row.size() == motions.size() ? along(row, a) : -1000;
    }

    int best(int bits, int a, int what) {
        List<Integer> motions = chosen(bits, 1, 6);
        if (motions == null || !isAffiliate(a) || what < -1 || what >= motions.size()) {
            return -1000;
        }
        List<List<Integer>> all = new ArrayList<>();
        permute(motions, new ArrayList<>(), all);
        List<Integer> best = null;
        int most = 0;
        for (List<Integer> order : all) {
            int v = along(order, a);
            if (best == null || v > most) {
                best = order;
                most = v;
            }
        }
        return what == NONE ? most : best.get(what);
    }

    private static void permute(List<Integer> rest, List<Integer> begun, List<List<Integer>> all) {
        if (rest.isEmpty()) {
            all.add(new ArrayList<>(begun));
        }
        for (int i = 0; i < rest.size(); i++) {
            List<Integer> left = new ArrayList<>(rest);
            begun.add(left.remove(i));
            permute(left, begun, all);
            begun.remove(begun.size() - 1);
        }
    }

    int deal(int what) {
        int[] best = null;
        int motions = movers.size();
        for (int a = 0; a < sections.size(); a++) {
            for (int b = a + 1; b < sections.size(); b++) {
                for (int m = 0; m < motions; m++) {
                    for (int n = 0; n < motions; n++) {
                        if (m == n || how(m) != 0 || how(n) != 0
                            || voiceOf(a, m, today) == 2 || voiceOf(b, n, today) == 2) {
                            continue;
                        }
                        int onM = turned(m, a) - turned(m, NONE);
                        int onN = turned(n, b) - turned(n, NONE);
                        int gainA = worthOf(a, m) * onM + worthOf(a, n) * onN;
                        int gainB = worthOf(b, m) * onM + worthOf(b, n) * onN;
                        if (gainA > 0 && gainB > 0 && (best == null || gainA + gainB > best[4] + best[5])) {
                            best = new int[] {a, b, m, n, gainA, gainB};
                        }
                    }
                }
            }
        }
        return best == null || what < 0 || what > 5 ? NONE : best[what];
    }

    private int turned(int motion, int a) {
        return passes(motion, count(motion, today, 0, new TreeSet<>(), a), against(motion), today) ? 1 : 0;
    }

    int count(int what) {
        switch (what) {
            case 0: return today;
            case 1: return sections.size();
            case 2: return branches.size();
            case 3: return tellings.size();
            case 4: return movers.size();
            case 5: return hangs.size();
            case 6: return orders.size();
            case 7: return now.force;
            case 8: return rows.size();
            case 9: return tape.length();
            case 10: return (int) now.how.headMap(100).values().stream().filter(h -> h == 0).count();
            case 11: return now.stands.size();
            default: return NONE;
        }
    }
}
