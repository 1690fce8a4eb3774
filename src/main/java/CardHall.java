import java.util.NoSuchElementException;

/**
 * A hall of a congress: affiliates with cards, motions, amendments, composites, standing orders,
 * decisions that can be counted anew, and what would come of other rules, orders and deals.
 * What each call promises stands in the document; README.md says how the parts hang together.
 */
public final class CardHall {
    public static final int NONE = -1;

    private static final int NO = 0;
    private static final int YES = 1;
    private static final int NOTHING = 2;
    private static final int TAKEN_BACK = 3;

    private static final int OPEN = 0;
    private static final int PASSED = 1;
    private static final int LOST = 2;
    private static final int FALLEN = 3;
    private static final int COMPOSED = 4;

    private static final int MOST_AFFILIATES = 12;
    private static final int MOST_BRANCHES = 48;
    private static final int MOST_TELLINGS = 600;
    private static final int MOST_MOTIONS = 24;
    private static final int MOST_AMENDMENTS = 40;
    private static final int MOST_ORDERS = 10;
    private static final int MOST_LINES = 12;
    private static final int MOST_CHANGES = 6;
    private static final int MOST_CLAUSES = 15;
    private static final int MOST_BRACKETS = 4;
    private static final int MOST_ROWS = 100;
    private static final int MOST_BYTES = 300;
    private static final int MOST_IN_COMPOSITE = 8;
    private static final int MOST_IN_ORDER = 6;
    private static final int ALL_ORDERS_OF_SIX = 720;
    private static final int ALL_GROUPINGS_OF_EIGHT = 4140;
    private static final int SECTIONS = 6;
    private static final int HIGHEST_N = 60;
    private static final int HIGHEST_DAY = 100000;
    private static final int HIGHEST_SUM = 1000000000;

    private static final int FIRST_AMENDMENT = 100;
    private static final int FIRST_ORDERS = 200;
    private static final int MATTERS = FIRST_ORDERS + MOST_ORDERS;

    private static final int TELLS_HEADS = 0;
    private static final int TELLS_DUES = 1;
    private static final int TELLS_MANDATE = 2;
    private static final int TELLS_CAST = 3;

    private static final int BY_CARDS = 0;
    private static final int BY_PAID_HEADS = 1;
    private static final int BY_AFFILIATES = 2;
    private static final int BY_BRANCHES = 3;

    private static final int UNFIT_TOKEN = 1;
    private static final int UNFIT_NUMBER = 2;
    private static final int UNKNOWN_NAME = 3;
    private static final int TOO_MANY = 4;
    private static final int LATE_AND_NOT_TAKEN = -6;

    private static final int STRIKE = 0;
    private static final int ADD = 1;
    private static final int TURN = 2;

    // The first three parts of ORDERS are pass of a KIND, so that a KIND is the number of its part.
    private static final int KIND_MOTION = 0;
    private static final int KIND_AMEND = 1;
    private static final int KIND_ORDER = 2;
    private static final int PART_CARDS = 3;
    private static final int PART_LATE = 4;
    private static final int PARTS = 5;

    private final Register register;
    private final Tape tape;
    private final OrdersReader ordersReader;
    private final LineReader lineReader;
    private final Papers papers;
    private final Floor floor;
    private final Count count;
    private final Chair chair;
    private final Composer composer;
    private final Worths worths;

    public CardHall() {
        register = new Register();
        tape = new Tape();
        papers = new Papers();
        ordersReader = new OrdersReader(tape, papers.noOrders);
        lineReader = new LineReader(tape);
        floor = new Floor(papers);
        count = new Count(register);
        chair = new Chair(register, papers, floor, count);
        composer = new Composer(papers, floor);
        worths = new Worths(register, papers, floor, count);
    }

    public int affiliate(int section) {
        return register.addAffiliate(section);
    }

    public int branch(int affiliate, int souls) {
        return register.addBranch(affiliate, souls);
    }

    public boolean heads(int affiliate, int n) {
        return register.hasAffiliate(affiliate) && n >= 0 && n <= 9999
            && register.tell(TELLS_HEADS, affiliate, NONE, n);
    }

    public boolean dues(int affiliate, int n) {
        return register.hasAffiliate(affiliate) && n >= 0 && n <= 99999
            && register.tell(TELLS_DUES, affiliate, NONE, n);
    }

    public boolean mandate(int branch, int matter, int v) {
        return register.hasBranch(branch) && floor.has(matter) && v >= NO && v <= NOTHING
            && register.tell(TELLS_MANDATE, branch, matter, v);
    }

    public boolean casts(int affiliate, int matter, int v) {
        if (!register.hasAffiliate(affiliate) || floor.stateOf(matter) != OPEN || v < NO || v > TAKEN_BACK) {
            return false;
        }
        return !isBarred(affiliate, matter, v) && register.tell(TELLS_CAST, affiliate, matter, v);
    }

    private boolean isBarred(int affiliate, int matter, int v) {
        if (v == TAKEN_BACK || !papers.inForce(floor.force).binds) {
            return false;
        }
        count.take(matter, register.today);
        int bound = count.mandateOf(affiliate);
        return bound != NOTHING && bound != v;
    }

    public int day(int n) {
        if (n < 0 || n > 1000 || register.today + n > HIGHEST_DAY) {
            return NONE;
        }
        register.today += n;
        return register.today;
    }

    public boolean closing(int day) {
        if (day < NONE || day > HIGHEST_DAY) {
            return false;
        }
        register.lastDay = day;
        return true;
    }

    public int feed(int a, int b, int c, int d, int e) {
        if (tape.length + 20 > MOST_BYTES) {
            return NONE;
        }
        tape.append(a);
        tape.append(b);
        tape.append(c);
        tape.append(d);
        tape.append(e);
        return tape.length;
    }

    public int end(int n) {
        if (n < 0 || n > tape.length) {
            return NONE;
        }
        tape.length = n;
        return n;
    }

    public int orders() {
        if (papers.orders >= MOST_ORDERS) {
            return NONE;
        }
        boolean whole = ordersReader.read(papers.draft());
        tape.length = 0;
        if (!whole) {
            return -1 - tape.fault;
        }
        int number = papers.orders;
        papers.orders++;
        floor.bring(FIRST_ORDERS + number);
        if (number == 0) {
            floor.put(FIRST_ORDERS, PASSED);
            floor.force = 0;
        }
        chair.closeLatest();
        return number;
    }

    public int motion(int mover) {
        if (!register.hasAffiliate(mover) || papers.motions >= MOST_MOTIONS) {
            return NONE;
        }
        boolean whole = lineReader.readMotion();
        tape.length = 0;
        if (!whole) {
            return -1 - tape.fault;
        }
        if (isLate() && !isTakenLate(mover, lineReader.size)) {
            return LATE_AND_NOT_TAKEN;
        }
        int number = papers.addMotion(mover);
        floor.bring(number);
        for (int i = 0; i < lineReader.size; i++) {
            floor.addLine(number, at(lineReader.number, i), at(lineReader.sort, i), NONE);
        }
        chair.closeLatest();
        return number;
    }

    private boolean isLate() {
        return register.lastDay != NONE && register.today > register.lastDay;
    }

    private boolean isTakenLate(int mover, int lines) {
        count.take(NONE, register.today);
        return count.takesLate(papers.inForce(floor.force), mover, lines, register.today);
    }

    public int amend(int motion) {
        if (!papers.hasMotion(motion) || floor.stateOf(motion) != OPEN || papers.amendments >= MOST_AMENDMENTS) {
            return NONE;
        }
        boolean whole = lineReader.readAmendment();
        tape.length = 0;
        if (!whole) {
            return -1 - tape.fault;
        }
        int number = papers.addAmendment(motion, lineReader);
        floor.bring(FIRST_AMENDMENT + number);
        chair.closeLatest();
        return number;
    }

    public int place() {
        return tape.place;
    }

    public int paid(int affiliate, int known) {
        if (!register.hasAffiliate(affiliate) || !register.isKnownDay(known)) {
            return NONE;
        }
        count.take(NONE, known);
        return count.paidHeadsOf(affiliate, papers.inForce(floor.force).rate);
    }

    public int cards(int affiliate, int known) {
        if (!register.hasAffiliate(affiliate) || !register.isKnownDay(known)) {
            return NONE;
        }
        count.take(NONE, known);
        return count.cardsOf(affiliate, papers.inForce(floor.force));
    }

    public int voice(int affiliate, int matter, int known, int what) {
        if (!register.hasAffiliate(affiliate) || !floor.has(matter) || !register.isKnownDay(known)
            || what < 0 || what > 1) {
            return NONE;
        }
        count.take(matter, known);
        return what == 0 ? count.voiceOf(affiliate) : count.mandateOf(affiliate);
    }

    public int counted(int matter, int known, int what) {
        if (!floor.has(matter) || !register.isKnownDay(known) || what < 0 || what > 3) {
            return NONE;
        }
        count.take(matter, known);
        count.weigh(papers.inForce(floor.force), BY_CARDS);
        count.sumUp(NONE);
        switch (what) {
            case 0: return count.yes;
            case 1: return count.no;
            case 2: return count.all;
            default: return count.sections;
        }
    }

    public int broken(int matter, int known) {
        if (!floor.has(matter) || !register.isKnownDay(known)) {
            return NONE;
        }
        count.take(matter, known);
        return count.brokenMandates();
    }

    public int decide(int matter) {
        return chair.decideNow(matter);
    }

    public int voids(int affiliate) {
        return chair.decideWithout(affiliate);
    }

    public int row(int k, int what) throws NoSuchElementException {
        if (k < 0 || k >= chair.rows || what < 0 || what >= Chair.ROW) {
            throw new NoSuchElementException("no such row");
        }
        return chair.rowField(k, what);
    }

    public int how(int matter) {
        return floor.stateOf(matter);
    }

    public int line(int motion, int i, int what) {
        int none = what == 0 ? 0 : NONE;
        if (!papers.hasMotion(motion) || i < 0 || i >= floor.sizeOf(motion)) {
            return none;
        }
        switch (what) {
            case 0: return floor.lineOf(motion, i);
            case 1: return floor.mustOf(motion, i);
            case 2: return floor.byOf(motion, i);
            default: return none;
        }
    }

    public int stands(int n) {
        if (n < 1 || n > HIGHEST_N) {
            return NONE * 2;
        }
        return (int) (floor.said >>> n & 1L) - (int) (floor.denied >>> n & 1L);
    }

    public int lost(int motions) {
        return composer.lostByAll(motions);
    }

    public int composite(int motions) {
        if (papers.motions >= MOST_MOTIONS || composer.lostByAll(motions) == NONE) {
            return NONE;
        }
        chair.closeLatest();
        return composer.make();
    }

    public int group(int motions, int n) {
        return composer.groupUp(motions, n);
    }

    public int grouped(int motions, int n, int motion) {
        return composer.groupUp(motions, n) == NONE ? NONE : composer.groupOf(motion);
    }

    public int would(int matter, int how) {
        if (floor.stateOf(matter) != OPEN || how < BY_CARDS || how > BY_BRANCHES) {
            return NONE;
        }
        return chair.wouldPass(matter, how) ? 1 : 0;
    }

    public boolean worth(int affiliate, int motion, int v) {
        return register.hasAffiliate(affiliate) && papers.hasMotion(motion) && v >= -9 && v <= 9
            && worths.tell(affiliate, motion, v);
    }

    public int inOrder(int motions, int order, int affiliate) {
        if (!register.hasAffiliate(affiliate) || !worths.prepare(motions) || !worths.readOrder(order)) {
            return NONE * 1000;
        }
        return worths.along(affiliate);
    }

    public int best(int motions, int affiliate, int what) {
        if (!register.hasAffiliate(affiliate) || !worths.prepare(motions)
            || what < NONE || what >= worths.many) {
            return NONE * 1000;
        }
        int greatest = worths.findBest(affiliate);
        return what == NONE ? greatest : worths.bestMotionAt(what);
    }

    public int deal(int what) {
        if (what < 0 || what >= Worths.DEAL || !worths.findDeal()) {
            return NONE;
        }
        return worths.dealField(what);
    }

    public int count(int what) {
        switch (what) {
            case 0: return register.today;
            case 1: return register.affiliates;
            case 2: return register.branches;
            case 3: return register.tellings;
            case 4: return papers.motions;
            case 5: return papers.amendments;
            case 6: return papers.orders;
            case 7: return floor.force;
            case 8: return chair.rows;
            case 9: return tape.length;
            case 10: return floor.openMotions();
            case 11: return Long.bitCount(floor.said | floor.denied);
            default: return NONE;
        }
    }

    // Every index that comes from an argument, a field or another array goes through these,
    // so that no state, however it came about, makes the machine throw.

    private static int at(int[] numbers, int i) {
        return i >= 0 && i < numbers.length ? numbers[i] : 0;
    }

    private static void set(int[] numbers, int i, int v) {
        if (i >= 0 && i < numbers.length) {
            numbers[i] = v;
        }
    }

    private static long at(long[] bits, int i) {
        return i >= 0 && i < bits.length ? bits[i] : 0L;
    }

    private static void set(long[] bits, int i, long v) {
        if (i >= 0 && i < bits.length) {
            bits[i] = v;
        }
    }

    private static void fill(int[] numbers, int v) {
        for (int i = 0; i < numbers.length; i++) {
            numbers[i] = v;
        }
    }

    private static void copy(int[] from, int[] to) {
        for (int i = 0; i < from.length && i < to.length; i++) {
            to[i] = from[i];
        }
    }

    private static int kindOf(int matter) {
        return matter >= FIRST_ORDERS ? KIND_ORDER : matter >= FIRST_AMENDMENT ? KIND_AMEND : KIND_MOTION;
    }

    /** Who is in the hall, and all that was told, in the order of telling (so by DAYS too). */
    private static final class Register {
        final int[] section = new int[MOST_AFFILIATES];
        final int[] owner = new int[MOST_BRANCHES];
        final int[] souls = new int[MOST_BRANCHES];
        final int[] kind = new int[MOST_TELLINGS];
        final int[] who = new int[MOST_TELLINGS];
        final int[] matter = new int[MOST_TELLINGS];
        final int[] told = new int[MOST_TELLINGS];
        final int[] value = new int[MOST_TELLINGS];
        int affiliates;
        int branches;
        int tellings;
        int today;
        int lastDay = NONE;

        boolean hasAffiliate(int affiliate) {
            return affiliate >= 0 && affiliate < affiliates;
        }

        boolean hasBranch(int branch) {
            return branch >= 0 && branch < branches;
        }

        boolean isKnownDay(int known) {
            return known >= 0 && known <= today;
        }

        int addAffiliate(int ofSection) {
            if (ofSection < 0 || ofSection >= SECTIONS || affiliates >= MOST_AFFILIATES) {
                return NONE;
            }
            set(section, affiliates, ofSection);
            affiliates++;
            return affiliates - 1;
        }

        int addBranch(int ofAffiliate, int many) {
            if (!hasAffiliate(ofAffiliate) || many < 1 || many > 999 || branches >= MOST_BRANCHES) {
                return NONE;
            }
            set(owner, branches, ofAffiliate);
            set(souls, branches, many);
            branches++;
            return branches - 1;
        }

        int branchesOf(int affiliate) {
            int many = 0;
            for (int b = 0; b < branches; b++) {
                many += at(owner, b) == affiliate ? 1 : 0;
            }
            return many;
        }

        int soulsOf(int affiliate) {
            int many = 0;
            for (int b = 0; b < branches; b++) {
                many += at(owner, b) == affiliate ? at(souls, b) : 0;
            }
            return many;
        }

        boolean tell(int ofKind, int by, int onMatter, int v) {
            if (tellings >= MOST_TELLINGS) {
                return false;
            }
            set(kind, tellings, ofKind);
            set(who, tellings, by);
            set(matter, tellings, onMatter);
            set(told, tellings, today);
            set(value, tellings, v);
            tellings++;
            return true;
        }
    }

    /** The bytes of a text, read TOKEN by TOKEN; keeps the first FAULT of the latest reading. */
    private static final class Tape {
        private static final int AT_END = 0;
        private static final int AT_WORD = 1;
        private static final int AT_NUMBER = 2;
        private static final int AT_SIGN = 3;
        private static final int AT_LONG_NUMBER = 4;

        private final int[] bytes = new int[MOST_BYTES];
        int length;
        private int kind;
        private int start;
        private int after;
        int value;
        int fault;
        int place = NONE;

        void append(int fourBytes) {
            for (int shift = 24; shift >= 0; shift -= 8) {
                if (length < MOST_BYTES) {
                    set(bytes, length, fourBytes >>> shift & 255);
                    length++;
                }
            }
        }

        void begin() {
            fault = 0;
            place = NONE;
            after = 0;
            next();
        }

        void next() {
            start = after;
            while (start < length && (at(bytes, start) == 32 || at(bytes, start) == 10)) {
                start++;
            }
            after = start;
            kind = sortOf(start < length ? at(bytes, start) : NONE);
            value = kind == AT_SIGN ? at(bytes, start) : 0;
            if (kind == AT_SIGN) {
                after++;
            }
            while (kind == AT_WORD && after < length && isLetter(at(bytes, after))) {
                after++;
            }
            while (kind == AT_NUMBER && after < length && isFigure(at(bytes, after))) {
                // Only four figures are of use; more would wrap around.
                value = after - start < 4 ? value * 10 + at(bytes, after) - '0' : value;
                after++;
            }
            if (kind == AT_NUMBER && after - start > 4) {
                kind = AT_LONG_NUMBER;
            }
        }

        private static int sortOf(int b) {
            return b == NONE ? AT_END
                : b >= 'a' && b <= 'z' ? AT_WORD
                : b >= '0' && b <= '9' ? AT_NUMBER : AT_SIGN;
        }

        private static boolean isLetter(int b) {
            return b >= 'a' && b <= 'z';
        }

        private static boolean isFigure(int b) {
            return b >= '0' && b <= '9';
        }

        boolean isEnd() {
            return kind == AT_END;
        }

        boolean isNumber() {
            return kind == AT_NUMBER;
        }

        boolean isAnyWord() {
            return kind == AT_WORD;
        }

        boolean isSign(char sign) {
            return kind == AT_SIGN && value == sign;
        }

        boolean isWord(String word) {
            if (kind != AT_WORD || after - start != word.length()) {
                return false;
            }
            for (int i = 0; i < word.length(); i++) {
                int k = start + i;
                if (k < 0 || k >= bytes.length || bytes[k] != word.charAt(i)) {
                    return false;
                }
            }
            return true;
        }

        boolean fail(int ofFault) {
            fault = ofFault;
            place = start;
            return false;
        }

        boolean skipSign(char sign) {
            if (!isSign(sign)) {
                return fail(UNFIT_TOKEN);
            }
            next();
            return true;
        }

        boolean skipWord(String word) {
            if (!isWord(word)) {
                return fail(UNFIT_TOKEN);
            }
            next();
            return true;
        }

        /** The N at hand, which may be 1 to most and none of those in barred; 0 with a FAULT. */
        int takeN(int most, long barred) {
            if (kind != AT_NUMBER) {
                fail(UNFIT_TOKEN);
                return 0;
            }
            if (value < 1 || value > most || (value <= HIGHEST_N && (barred >>> value & 1L) != 0L)) {
                fail(UNFIT_NUMBER);
                return 0;
            }
            int n = value;
            next();
            return n;
        }
    }

    /** What ORDERS say, its conditions and sums with each sign behind its two sides. */
    private static final class Rules {
        // Deep enough: each of the brackets leaves at most two sides waiting, what is around them three.
        static final int STACK = 32;
        private static final int USUAL_RATE = 10;
        private static final int USUAL_LENGTH = 12;
        static final int NUMBER = 0;
        static final int NAME = 1;
        static final int PLUS = 2;
        static final int MINUS = 3;
        static final int TIMES = 4;
        static final int OVER = 5;
        static final int LESS = 6;
        static final int MORE = 7;
        static final int LIKE = 8;
        static final int AND = 9;
        static final int OR = 10;
        static final int NOT = 11;

        private final int[] steps = new int[MOST_BYTES];
        private final int[] from = new int[PARTS];
        private final int[] to = new int[PARTS];
        private int size;
        int rate = USUAL_RATE;
        int length = USUAL_LENGTH;
        boolean binds;

        void clear() {
            size = 0;
            fill(from, 0);
            fill(to, 0);
            rate = USUAL_RATE;
            length = USUAL_LENGTH;
            binds = false;
        }

        void beginPart(int part) {
            set(from, part, size);
        }

        void endPart(int part) {
            set(to, part, size);
        }

        void addStep(int sort, int n) {
            if (size >= 0 && size < steps.length) {
                steps[size] = n * 16 + sort;
                size++;
            }
        }

        boolean says(int part) {
            return at(to, part) > at(from, part);
        }

        int value(int part, int[] facts, int[] stack) {
            int top = 0;
            int last = at(to, part);
            for (int i = at(from, part); i < last; i++) {
                int sort = at(steps, i) & 15;
                int n = at(steps, i) >> 4;
                if (sort == NUMBER || sort == NAME) {
                    set(stack, top, sort == NUMBER ? n : at(facts, n));
                    top++;
                } else if (sort == NOT) {
                    set(stack, top - 1, 1 - at(stack, top - 1));
                } else {
                    set(stack, top - 2, bounded(joined(sort, at(stack, top - 2), at(stack, top - 1))));
                    top--;
                }
            }
            return at(stack, 0);
        }

        private static long joined(int sort, long a, long b) {
            switch (sort) {
                case PLUS: return a + b;
                case MINUS: return a - b;
                case TIMES: return a * b;
                case OVER: return b == 0L ? 0L : a / b;
                case LESS: return a < b ? 1L : 0L;
                case MORE: return a > b ? 1L : 0L;
                case LIKE: return a == b ? 1L : 0L;
                case AND: return a & b;
                default: return a | b;
            }
        }

        static int bounded(long sum) {
            return sum > HIGHEST_SUM ? HIGHEST_SUM : sum < -HIGHEST_SUM ? -HIGHEST_SUM : (int) sum;
        }
    }

    /** Reads ORDERS. Each method leaves the FAULT on the tape and answers false, or is behind its part. */
    private static final class OrdersReader {
        private static final int CLAUSE_PASS = 0;
        private static final int CLAUSE_CARDS = 1;
        private static final int CLAUSE_RATE = 2;
        private static final int CLAUSE_LENGTH = 3;
        private static final int CLAUSE_BIND = 4;
        private static final int CLAUSE_LATE = 5;

        private final Tape tape;
        private Rules rules;
        private int part;

        OrdersReader(Tape tape, Rules atFirst) {
            this.tape = tape;
            rules = atFirst;
        }

        boolean read(Rules into) {
            rules = into;
            rules.clear();
            tape.begin();
            for (int i = 0; i <= MOST_CLAUSES; i++) {
                if (tape.isEnd()) {
                    return true;
                }
                if (!readClause(i)) {
                    return false;
                }
            }
            return false;
        }

        private boolean readClause(int clausesBefore) {
            int clause = clauseAtHand();
            if (clause == NONE) {
                return tape.fail(UNFIT_TOKEN);
            }
            if (clausesBefore >= MOST_CLAUSES) {
                return tape.fail(TOO_MANY);
            }
            tape.next();
            boolean good = true;
            switch (clause) {
                case CLAUSE_PASS:
                case CLAUSE_LATE:
                    good = beginCondition(clause) && either(0);
                    rules.endPart(part);
                    break;
                case CLAUSE_CARDS:
                    beginPart(PART_CARDS);
                    good = sum(0);
                    rules.endPart(part);
                    break;
                case CLAUSE_RATE:
                    rules.rate = tape.takeN(999, 0L);
                    good = rules.rate > 0;
                    break;
                case CLAUSE_LENGTH:
                    rules.length = tape.takeN(12, 0L);
                    good = rules.length > 0;
                    break;
                default:
                    rules.binds = true;
            }
            return good && tape.skipSign(';');
        }

        private int clauseAtHand() {
            return tape.isWord("pass") ? CLAUSE_PASS
                : tape.isWord("cards") ? CLAUSE_CARDS
                : tape.isWord("rate") ? CLAUSE_RATE
                : tape.isWord("length") ? CLAUSE_LENGTH
                : tape.isWord("bind") ? CLAUSE_BIND
                : tape.isWord("late") ? CLAUSE_LATE : NONE;
        }

        private int kindAtHand() {
            return tape.isWord("motion") ? KIND_MOTION
                : tape.isWord("amend") ? KIND_AMEND
                : tape.isWord("order") ? KIND_ORDER : NONE;
        }

        private boolean beginCondition(int clause) {
            int ofPart = clause == CLAUSE_LATE ? PART_LATE : kindAtHand();
            if (ofPart == NONE) {
                return tape.fail(UNFIT_TOKEN);
            }
            if (ofPart != PART_LATE) {
                tape.next();
            }
            beginPart(ofPart);
            return tape.skipWord("if");
        }

        private void beginPart(int ofPart) {
            part = ofPart;
            rules.beginPart(part);
        }

        // These call one another; open, the number of open brackets, is at most four.

        private boolean either(int open) {
            boolean good = both(open);
            for (int i = 0; i < MOST_BYTES && good && tape.isWord("or"); i++) {
                tape.next();
                good = both(open);
                rules.addStep(Rules.OR, 0);
            }
            return good;
        }

        private boolean both(int open) {
            boolean good = piece(open);
            for (int i = 0; i < MOST_BYTES && good && tape.isWord("and"); i++) {
                tape.next();
                good = piece(open);
                rules.addStep(Rules.AND, 0);
            }
            return good;
        }

        private boolean piece(int open) {
            boolean turned = skipNots();
            boolean good;
            if (tape.isSign('[')) {
                good = square(open);
            } else {
                good = sum(open);
                int sort = good ? takeComparison() : NONE;
                good = sort != NONE && sum(open);
                rules.addStep(sort, 0);
            }
            if (turned) {
                rules.addStep(Rules.NOT, 0);
            }
            return good;
        }

        /** Whether the nots in a row turn what is behind them; there may be far more than calls may stand open. */
        private boolean skipNots() {
            boolean turned = false;
            for (int i = 0; i < MOST_BYTES && tape.isWord("not"); i++) {
                tape.next();
                turned = !turned;
            }
            return turned;
        }

        /** The comparison that was at hand; NONE with a FAULT. */
        private int takeComparison() {
            int sort = tape.isSign('<') ? Rules.LESS : tape.isSign('>') ? Rules.MORE
                : tape.isSign('=') ? Rules.LIKE : NONE;
            if (sort == NONE) {
                tape.fail(UNFIT_TOKEN);
            } else {
                tape.next();
            }
            return sort;
        }

        private boolean square(int open) {
            if (open >= MOST_BRACKETS) {
                return tape.fail(TOO_MANY);
            }
            tape.next();
            return either(open + 1) && tape.skipSign(']');
        }

        private boolean sum(int open) {
            boolean good = product(open);
            for (int i = 0; i < MOST_BYTES && good && (tape.isSign('+') || tape.isSign('-')); i++) {
                int sort = tape.isSign('+') ? Rules.PLUS : Rules.MINUS;
                tape.next();
                good = product(open);
                rules.addStep(sort, 0);
            }
            return good;
        }

        private boolean product(int open) {
            boolean good = factor(open);
            for (int i = 0; i < MOST_BYTES && good && (tape.isSign('*') || tape.isSign('/')); i++) {
                int sort = tape.isSign('*') ? Rules.TIMES : Rules.OVER;
                tape.next();
                good = factor(open);
                rules.addStep(sort, 0);
            }
            return good;
        }

        private boolean factor(int open) {
            if (tape.isNumber()) {
                rules.addStep(Rules.NUMBER, tape.value);
                tape.next();
                return true;
            }
            if (tape.isAnyWord()) {
                return name();
            }
            if (!tape.isSign('(')) {
                return tape.fail(UNFIT_TOKEN);
            }
            if (open >= MOST_BRACKETS) {
                return tape.fail(TOO_MANY);
            }
            tape.next();
            return sum(open + 1) && tape.skipSign(')');
        }

        private boolean name() {
            int fact = part == PART_CARDS ? factOfCards() : part == PART_LATE ? factOfLate() : factOfPass();
            if (fact == NONE) {
                return tape.fail(UNKNOWN_NAME);
            }
            rules.addStep(Rules.NAME, fact);
            tape.next();
            return true;
        }

        // The numbers are the places of the facts as Count lays them down.

        private int factOfPass() {
            return tape.isWord("yes") ? 0 : tape.isWord("no") ? 1 : tape.isWord("all") ? 2
                : tape.isWord("sections") ? 3 : tape.isWord("against") ? 4 : tape.isWord("day") ? 5 : NONE;
        }

        private int factOfCards() {
            return tape.isWord("heads") ? 0 : tape.isWord("branches") ? 1 : tape.isWord("souls") ? 2
                : tape.isWord("section") ? 3 : NONE;
        }

        private int factOfLate() {
            return tape.isWord("heads") ? 0 : tape.isWord("lines") ? 1 : tape.isWord("day") ? 2 : NONE;
        }
    }

    /** Reads the LINES of a MOTION (sort: must) and the CHANGES of an AMENDMENT (sort: which change). */
    private static final class LineReader {
        private final Tape tape;
        final int[] number = new int[MOST_LINES];
        final int[] sort = new int[MOST_LINES];
        int size;

        LineReader(Tape tape) {
            this.tape = tape;
        }

        boolean readMotion() {
            long seen = 0L;
            size = 0;
            tape.begin();
            for (int i = 0; i <= MOST_LINES; i++) {
                if (i > 0 && tape.isEnd()) {
                    return true;
                }
                if (!tape.isWord("say")) {
                    return tape.fail(UNFIT_TOKEN);
                }
                if (i >= MOST_LINES) {
                    return tape.fail(TOO_MANY);
                }
                int n = readLine(seen);
                if (n == 0) {
                    return false;
                }
                seen |= 1L << n;
            }
            return false;
        }

        private int readLine(long seen) {
            tape.next();
            boolean contrary = takeWord("not");
            int n = tape.takeN(HIGHEST_N, seen);
            if (n == 0) {
                return 0;
            }
            int must = takeWord("must") ? 1 : 0;
            keep(contrary ? -n : n, must);
            return tape.skipSign(';') ? n : 0;
        }

        boolean readAmendment() {
            size = 0;
            tape.begin();
            for (int i = 0; i <= MOST_CHANGES; i++) {
                if (i > 0 && tape.isEnd()) {
                    return true;
                }
                int change = tape.isWord("strike") ? STRIKE : tape.isWord("add") ? ADD
                    : tape.isWord("turn") ? TURN : NONE;
                if (change == NONE) {
                    return tape.fail(UNFIT_TOKEN);
                }
                if (i >= MOST_CHANGES) {
                    return tape.fail(TOO_MANY);
                }
                if (!readChange(change)) {
                    return false;
                }
            }
            return false;
        }

        private boolean readChange(int change) {
            tape.next();
            boolean contrary = change == ADD && takeWord("not");
            int n = tape.takeN(HIGHEST_N, 0L);
            if (n == 0) {
                return false;
            }
            keep(contrary ? -n : n, change);
            return tape.skipSign(';');
        }

        private boolean takeWord(String word) {
            boolean there = tape.isWord(word);
            if (there) {
                tape.next();
            }
            return there;
        }

        private void keep(int n, int ofSort) {
            if (size < MOST_LINES) {
                set(number, size, n);
                set(sort, size, ofSort);
                size++;
            }
        }
    }

    /** What of the MATTERS no DECISION changes: who moved, what hangs on what, what each text says. */
    private static final class Papers {
        final int[] mover = new int[MOST_MOTIONS];
        final int[] hangsOn = new int[MOST_AMENDMENTS];
        final int[] changes = new int[MOST_AMENDMENTS];
        final int[] changeSort = new int[MOST_AMENDMENTS * MOST_CHANGES];
        final int[] changeNumber = new int[MOST_AMENDMENTS * MOST_CHANGES];
        private final Rules[] rules = new Rules[MOST_ORDERS];
        final Rules noOrders = new Rules();
        int motions;
        int amendments;
        int orders;

        Papers() {
            for (int i = 0; i < rules.length; i++) {
                rules[i] = new Rules();
            }
        }

        boolean hasMotion(int motion) {
            return motion >= 0 && motion < motions;
        }

        Rules inForce(int number) {
            Rules found = number >= 0 && number < rules.length ? rules[number] : noOrders;
            return found == null ? noOrders : found;
        }

        /** A row for the next ORDERS; a text with a FAULT leaves it unused. */
        Rules draft() {
            return inForce(orders);
        }

        int addMotion(int by) {
            set(mover, motions, by);
            motions++;
            return motions - 1;
        }

        int addAmendment(int motion, LineReader text) {
            set(hangsOn, amendments, motion);
            set(changes, amendments, text.size);
            for (int i = 0; i < text.size; i++) {
                set(changeSort, amendments * MOST_CHANGES + i, at(text.sort, i));
                set(changeNumber, amendments * MOST_CHANGES + i, at(text.number, i));
            }
            amendments++;
            return amendments - 1;
        }
    }

    /** What DECISIONS change: how MATTERS are, LINES, WHAT STANDS (as bits by N), ORDERS IN FORCE. */
    private static final class Floor {
        // One row more than there are MOTIONS: an AMENDMENT is DONE there to see what would come of it.
        private static final int TRIAL = MOST_MOTIONS;

        private final Papers papers;
        private final int[] state = new int[MATTERS];
        private final int[] size = new int[MOST_MOTIONS + 1];
        private final int[] number = new int[(MOST_MOTIONS + 1) * MOST_LINES];
        private final int[] must = new int[(MOST_MOTIONS + 1) * MOST_LINES];
        private final int[] by = new int[(MOST_MOTIONS + 1) * MOST_LINES];
        long said;
        long denied;
        int force = NONE;

        Floor(Papers papers) {
            this.papers = papers;
            fill(state, NONE);
        }

        void copyFrom(Floor other) {
            copy(other.state, state);
            copy(other.size, size);
            copy(other.number, number);
            copy(other.must, must);
            copy(other.by, by);
            said = other.said;
            denied = other.denied;
            force = other.force;
        }

        boolean has(int matter) {
            return stateOf(matter) != NONE;
        }

        int stateOf(int matter) {
            return matter >= 0 && matter < MATTERS ? at(state, matter) : NONE;
        }

        void put(int matter, int newState) {
            set(state, matter, newState);
        }

        void bring(int matter) {
            put(matter, OPEN);
        }

        int openMotions() {
            int many = 0;
            for (int m = 0; m < papers.motions; m++) {
                many += stateOf(m) == OPEN ? 1 : 0;
            }
            return many;
        }

        /** Writes the OPEN MOTIONS that the bits name; 0 if one of them is none, or there are too many. */
        int chosen(int bits, int[] into) {
            int many = 0;
            if (bits >>> MOST_MOTIONS != 0) {
                return 0;
            }
            for (int m = 0; m < MOST_MOTIONS; m++) {
                if ((bits >>> m & 1) == 0) {
                    continue;
                }
                if (stateOf(m) != OPEN || many >= into.length) {
                    return 0;
                }
                set(into, many, m);
                many++;
            }
            return many;
        }

        int sizeOf(int row) {
            return at(size, row);
        }

        int lineOf(int row, int i) {
            return at(number, row * MOST_LINES + i);
        }

        int mustOf(int row, int i) {
            return at(must, row * MOST_LINES + i);
        }

        int byOf(int row, int i) {
            return at(by, row * MOST_LINES + i);
        }

        /** The N of a row as bits: of LINES for them (sign 1) or for their contraries (-1). */
        long bitsOf(int row, int sign) {
            long bits = 0L;
            int end = row * MOST_LINES + at(size, row);
            for (int i = row * MOST_LINES; i < end; i++) {
                int n = at(number, i) * sign;
                bits |= n > 0 ? 1L << n : 0L;
            }
            return bits;
        }

        long mustBitsOf(int row) {
            long bits = 0L;
            int end = row * MOST_LINES + at(size, row);
            for (int i = row * MOST_LINES; i < end; i++) {
                bits |= at(must, i) == 1 ? 1L << Math.abs(at(number, i)) : 0L;
            }
            return bits;
        }

        void addLine(int row, int n, int isMust, int byWhich) {
            int many = at(size, row);
            if (many < MOST_LINES) {
                set(number, row * MOST_LINES + many, n);
                set(must, row * MOST_LINES + many, isMust);
                set(by, row * MOST_LINES + many, byWhich);
                set(size, row, many + 1);
            }
        }

        private void strikeLine(int row, int i) {
            int last = row * MOST_LINES + at(size, row) - 1;
            for (int k = row * MOST_LINES + i; k < last; k++) {
                set(number, k, at(number, k + 1));
                set(must, k, at(must, k + 1));
                set(by, k, at(by, k + 1));
            }
            set(size, row, at(size, row) - 1);
        }

        private void turnLine(int row, int i, int byWhich) {
            int k = row * MOST_LINES + i;
            set(number, k, -at(number, k));
            set(by, k, byWhich);
        }

        private int find(int row, int n) {
            for (int i = 0; i < at(size, row); i++) {
                if (Math.abs(at(number, row * MOST_LINES + i)) == n) {
                    return i;
                }
            }
            return NONE;
        }

        private void amendRow(int row, int amendment) {
            int first = amendment * MOST_CHANGES;
            for (int k = first; k < first + at(papers.changes, amendment); k++) {
                int sort = at(papers.changeSort, k);
                int n = at(papers.changeNumber, k);
                int i = find(row, Math.abs(n));
                if (sort == ADD && i == NONE) {
                    addLine(row, n, 0, amendment);
                } else if (sort == STRIKE && i != NONE) {
                    strikeLine(row, i);
                } else if (sort == TURN && i != NONE) {
                    turnLine(row, i, amendment);
                }
            }
        }

        private void copyToTrial(int row) {
            set(size, TRIAL, 0);
            for (int i = 0; i < sizeOf(row); i++) {
                addLine(TRIAL, lineOf(row, i), mustOf(row, i), byOf(row, i));
            }
        }

        int against(int matter) {
            if (kindOf(matter) == KIND_ORDER) {
                return 0;
            }
            int row = matter;
            if (kindOf(matter) == KIND_AMEND) {
                int amendment = matter - FIRST_AMENDMENT;
                row = TRIAL;
                copyToTrial(at(papers.hangsOn, amendment));
                amendRow(row, amendment);
            }
            return (bitsOf(row, 1) & denied | bitsOf(row, -1) & said) != 0L ? 1 : 0;
        }

        boolean areContrary(int row, int other) {
            return (bitsOf(row, 1) & bitsOf(other, -1) | bitsOf(row, -1) & bitsOf(other, 1)) != 0L;
        }

        void closeMotion(int motion, int newState) {
            put(motion, newState);
            for (int i = 0; i < papers.amendments; i++) {
                if (at(papers.hangsOn, i) == motion && stateOf(FIRST_AMENDMENT + i) == OPEN) {
                    put(FIRST_AMENDMENT + i, FALLEN);
                }
            }
        }

        void passMotion(int motion) {
            closeMotion(motion, PASSED);
            long yes = bitsOf(motion, 1);
            long no = bitsOf(motion, -1);
            said = said & ~no | yes;
            denied = denied & ~yes | no;
            for (int m = 0; m < papers.motions; m++) {
                if (m != motion && stateOf(m) == OPEN && areContrary(m, motion)) {
                    closeMotion(m, FALLEN);
                }
            }
        }

        void passAmendment(int amendment) {
            int motion = at(papers.hangsOn, amendment);
            put(FIRST_AMENDMENT + amendment, PASSED);
            amendRow(motion, amendment);
            if (sizeOf(motion) == 0) {
                closeMotion(motion, FALLEN);
            }
        }

        void passOrders(int number) {
            put(FIRST_ORDERS + number, PASSED);
            force = number;
        }
    }

    /** Takes up what is known of one MATTER on one DAY, and counts it. */
    private static final class Count {
        private final Register register;
        private final int[] heads = new int[MOST_AFFILIATES];
        private final int[] dues = new int[MOST_AFFILIATES];
        private final int[] casts = new int[MOST_AFFILIATES];
        private final int[] mandates = new int[MOST_BRANCHES];
        private final int[] weights = new int[MOST_AFFILIATES];
        private final int[] voices = new int[MOST_AFFILIATES];
        private final long[] lead = new long[SECTIONS];
        private final int[] facts = new int[6];
        private final int[] stack = new int[Rules.STACK];
        private long yesSum;
        private long noSum;
        private long allSum;
        int yes;
        int no;
        int all;
        int sections;

        Count(Register register) {
            this.register = register;
        }

        void take(int matter, int day) {
            fill(heads, 0);
            fill(dues, 0);
            fill(casts, TAKEN_BACK);
            fill(mandates, NOTHING);
            for (int i = 0; i < register.tellings && at(register.told, i) <= day; i++) {
                takeTelling(i, matter);
            }
            for (int a = 0; a < register.affiliates; a++) {
                set(voices, a, voiceOf(a));
            }
        }

        private void takeTelling(int i, int matter) {
            int who = at(register.who, i);
            int v = at(register.value, i);
            switch (at(register.kind, i)) {
                case TELLS_HEADS:
                    set(heads, who, v);
                    break;
                case TELLS_DUES:
                    set(dues, who, v);
                    break;
                default:
                    if (at(register.matter, i) == matter) {
                        set(at(register.kind, i) == TELLS_CAST ? casts : mandates, who, v);
                    }
            }
        }

        int mandateOf(int affiliate) {
            int balance = 0;
            for (int b = 0; b < register.branches; b++) {
                if (at(register.owner, b) == affiliate && at(mandates, b) != NOTHING) {
                    balance += at(mandates, b) == YES ? at(register.souls, b) : -at(register.souls, b);
                }
            }
            return balance > 0 ? YES : balance < 0 ? NO : NOTHING;
        }

        int voiceOf(int affiliate) {
            int cast = at(casts, affiliate);
            return cast == TAKEN_BACK ? mandateOf(affiliate) : cast;
        }

        /** The VOICE as it was last taken up, without looking at the BRANCHES again. */
        int voiceTaken(int affiliate) {
            return at(voices, affiliate);
        }

        int brokenMandates() {
            int many = 0;
            for (int a = 0; a < register.affiliates; a++) {
                int bound = mandateOf(a);
                int cast = at(casts, a);
                many += bound != NOTHING && cast != TAKEN_BACK && cast != bound ? 1 : 0;
            }
            return many;
        }

        int paidHeadsOf(int affiliate, int rate) {
            int payable = rate == 0 ? 0 : at(dues, affiliate) / rate;
            return Math.min(at(heads, affiliate), payable);
        }

        int cardsOf(int affiliate, Rules rules) {
            int paidHeads = paidHeadsOf(affiliate, rules.rate);
            if (!rules.says(PART_CARDS)) {
                return paidHeads;
            }
            set(facts, 0, paidHeads);
            set(facts, 1, register.branchesOf(affiliate));
            set(facts, 2, register.soulsOf(affiliate));
            set(facts, 3, at(register.section, affiliate));
            return Math.max(0, rules.value(PART_CARDS, facts, stack));
        }

        boolean takesLate(Rules rules, int mover, int lines, int day) {
            set(facts, 0, paidHeadsOf(mover, rules.rate));
            set(facts, 1, lines);
            set(facts, 2, day);
            return rules.says(PART_LATE) && rules.value(PART_LATE, facts, stack) != 0;
        }

        void weigh(Rules rules, int how) {
            for (int a = 0; a < register.affiliates; a++) {
                set(weights, a, how == BY_AFFILIATES ? 1
                    : how == BY_PAID_HEADS ? paidHeadsOf(a, rules.rate) : cardsOf(a, rules));
            }
        }

        void leaveOut(int voidBits) {
            for (int a = 0; a < register.affiliates; a++) {
                if ((voidBits >>> a & 1) != 0) {
                    set(weights, a, 0);
                }
            }
        }

        /** Counts the weights, the VOICE of one AFFILIATE (or NONE) turned into its contrary. */
        void sumUp(int turned) {
            beginSum();
            for (int a = 0; a < register.affiliates; a++) {
                int v = at(voices, a);
                add(at(register.section, a), a == turned && v != NOTHING ? YES - v : v, at(weights, a));
            }
            endSum();
        }

        void sumUpBranches() {
            beginSum();
            for (int b = 0; b < register.branches; b++) {
                add(at(register.section, at(register.owner, b)), at(mandates, b), 1);
            }
            endSum();
        }

        private void beginSum() {
            yesSum = 0L;
            noSum = 0L;
            allSum = 0L;
            for (int s = 0; s < lead.length; s++) {
                lead[s] = 0L;
            }
        }

        private void add(int section, int v, int weight) {
            allSum += weight;
            yesSum += v == YES ? weight : 0;
            noSum += v == NO ? weight : 0;
            if (section >= 0 && section < lead.length) {
                lead[section] += v == YES ? weight : v == NO ? -weight : 0;
            }
        }

        private void endSum() {
            yes = Rules.bounded(yesSum);
            no = Rules.bounded(noSum);
            all = Rules.bounded(allSum);
            sections = 0;
            for (int s = 0; s < lead.length; s++) {
                sections += lead[s] > 0L ? 1 : 0;
            }
        }

        boolean passes(Rules rules, int kind, int against, int day) {
            if (!rules.says(kind)) {
                return yes > no;
            }
            set(facts, 0, yes);
            set(facts, 1, no);
            set(facts, 2, all);
            set(facts, 3, sections);
            set(facts, 4, against);
            set(facts, 5, day);
            return rules.value(kind, facts, stack) != 0;
        }
    }

    /** Makes DECISIONS, keeps their ROWS, and goes back ahead of the latest one when a CARD is VOID. */
    private static final class Chair {
        static final int ROW = 7;

        private final Register register;
        private final Papers papers;
        private final Floor floor;
        private final Floor before;
        private final Count count;
        private final int[] fields = new int[MOST_ROWS * ROW];
        private boolean latestStays;
        private int voidBits;
        int rows;

        Chair(Register register, Papers papers, Floor floor, Count count) {
            this.register = register;
            this.papers = papers;
            this.floor = floor;
            this.count = count;
            before = new Floor(papers);
        }

        void closeLatest() {
            latestStays = false;
        }

        int rowField(int k, int what) {
            return at(fields, k * ROW + what);
        }

        int decideNow(int matter) {
            if (floor.stateOf(matter) != OPEN || rows >= MOST_ROWS) {
                return NONE;
            }
            before.copyFrom(floor);
            latestStays = true;
            voidBits = 0;
            rows++;
            return decideOn(matter, register.today);
        }

        int decideWithout(int affiliate) {
            if (!latestStays || !register.hasAffiliate(affiliate) || (voidBits >>> affiliate & 1) != 0) {
                return NONE;
            }
            int matter = rowField(rows - 1, 0);
            int day = rowField(rows - 1, 1);
            count.take(matter, day);
            if (count.voiceTaken(affiliate) == NOTHING) {
                return NONE;
            }
            voidBits |= 1 << affiliate;
            floor.copyFrom(before);
            return decideOn(matter, day);
        }

        private int decideOn(int matter, int day) {
            Rules rules = papers.inForce(floor.force);
            count.take(matter, day);
            count.weigh(rules, BY_CARDS);
            count.leaveOut(voidBits);
            count.sumUp(NONE);
            boolean passed = count.passes(rules, kindOf(matter), floor.against(matter), day);
            writeRow(matter, day, passed);
            carryOut(matter, passed);
            return passed ? 1 : 0;
        }

        private void writeRow(int matter, int day, boolean passed) {
            int first = (rows - 1) * ROW;
            set(fields, first, matter);
            set(fields, first + 1, day);
            set(fields, first + 2, count.yes);
            set(fields, first + 3, count.no);
            set(fields, first + 4, count.all);
            set(fields, first + 5, passed ? 1 : 0);
            set(fields, first + 6, Integer.bitCount(voidBits));
        }

        private void carryOut(int matter, boolean passed) {
            int kind = kindOf(matter);
            if (kind == KIND_MOTION && passed) {
                floor.passMotion(matter);
            } else if (kind == KIND_MOTION) {
                floor.closeMotion(matter, LOST);
            } else if (!passed) {
                floor.put(matter, LOST);
            } else if (kind == KIND_AMEND) {
                floor.passAmendment(matter - FIRST_AMENDMENT);
            } else {
                floor.passOrders(matter - FIRST_ORDERS);
            }
        }

        boolean wouldPass(int matter, int how) {
            Rules rules = papers.inForce(floor.force);
            count.take(matter, register.today);
            if (how == BY_BRANCHES) {
                count.sumUpBranches();
            } else {
                count.weigh(rules, how);
                count.sumUp(NONE);
            }
            return count.passes(rules, kindOf(matter), floor.against(matter), register.today);
        }
    }

    /** Composes MOTIONS, and finds how to group them with the fewest LOST LINES. */
    private static final class Composer {
        private final Papers papers;
        private final Floor floor;
        private final int[] motions = new int[MOST_IN_COMPOSITE];
        private final long[] saidBits = new long[MOST_IN_COMPOSITE];
        private final long[] deniedBits = new long[MOST_IN_COMPOSITE];
        private final long[] mustBits = new long[MOST_IN_COMPOSITE];
        private int many;
        // Of what was composed last, as bits by N: LINES that it keeps, those for N, those that are must.
        private long kept;
        private long said;
        private long must;
        private final long[] sharedBy = new long[MOST_IN_COMPOSITE + 1];
        private final int[] lostBy = new int[1 << MOST_IN_COMPOSITE];
        private final int[] members = new int[MOST_IN_COMPOSITE];
        private final int[] inGroup = new int[MOST_IN_COMPOSITE];
        private final int[] bestInGroup = new int[MOST_IN_COMPOSITE];
        private int mostGroups;
        private int bestLost;
        private int bestGroups;

        Composer(Papers papers, Floor floor) {
            this.papers = papers;
            this.floor = floor;
        }

        private void choose(int bits) {
            many = floor.chosen(bits, motions);
            for (int i = 0; i < many; i++) {
                int motion = at(motions, i);
                set(saidBits, i, floor.bitsOf(motion, 1));
                set(deniedBits, i, floor.bitsOf(motion, -1));
                set(mustBits, i, floor.mustBitsOf(motion));
            }
        }

        int lostByAll(int bits) {
            choose(bits);
            return many < 2 ? NONE : compose((1 << many) - 1);
        }

        /** LOST LINES of those of the motions that the subset names; NONE if no COMPOSITE can be. */
        private int compose(int subset) {
            if (!gather(subset)) {
                return NONE;
            }
            int lines = 0;
            int keptLines = 0;
            for (int i = 0; i < many; i++) {
                if ((subset >>> i & 1) != 0) {
                    long all = at(saidBits, i) | at(deniedBits, i);
                    lines += Long.bitCount(all);
                    keptLines += Long.bitCount(all & kept);
                }
            }
            return lines - keptLines;
        }

        private boolean gather(int subset) {
            int length = papers.inForce(floor.force).length;
            long denied = 0L;
            said = 0L;
            must = 0L;
            for (int k = 0; k < sharedBy.length; k++) {
                sharedBy[k] = 0L;
            }
            for (int i = 0; i < many; i++) {
                if ((subset >>> i & 1) != 0) {
                    said |= at(saidBits, i);
                    denied |= at(deniedBits, i);
                    must |= at(mustBits, i);
                    share(at(saidBits, i) | at(deniedBits, i));
                }
            }
            if ((said & denied) != 0L || Long.bitCount(must) > length) {
                return false;
            }
            keepUpTo(length);
            return true;
        }

        /** sharedBy[k] holds the N that at least k MOTIONS have; one MOTION more lifts what it has. */
        private void share(long bits) {
            for (int k = sharedBy.length - 1; k > 1; k--) {
                sharedBy[k] |= sharedBy[k - 1] & bits;
            }
            sharedBy[1] |= bits;
        }

        private void keepUpTo(int length) {
            kept = must;
            int room = length - Long.bitCount(must);
            for (int k = sharedBy.length - 1; k > 0; k--) {
                long others = sharedBy[k] & ~kept;
                while (room > 0 && others != 0L) {
                    long least = others & -others;
                    kept |= least;
                    others ^= least;
                    room--;
                }
            }
        }

        /** Makes the COMPOSITE that lostByAll found possible. */
        int make() {
            int number = papers.addMotion(at(papers.mover, at(motions, 0)));
            floor.bring(number);
            for (int n = 1; n <= HIGHEST_N; n++) {
                if ((kept >>> n & 1L) != 0L) {
                    floor.addLine(number, (said >>> n & 1L) != 0L ? n : -n, (int) (must >>> n & 1L), NONE);
                }
            }
            for (int i = 0; i < many; i++) {
                floor.closeMotion(at(motions, i), COMPOSED);
            }
            return number;
        }

        int groupUp(int bits, int most) {
            if (most < 1 || most > MOST_IN_COMPOSITE) {
                return NONE;
            }
            choose(bits);
            if (many == 0) {
                return NONE;
            }
            for (int subset = 1; subset < 1 << many; subset++) {
                set(lostBy, subset, Integer.bitCount(subset) == 1 ? 0 : compose(subset));
            }
            mostGroups = most;
            bestLost = NONE;
            fill(inGroup, 0);
            boolean more = true;
            // They come in the order that makes the first of like ones the one to keep.
            for (int k = 0; k < ALL_GROUPINGS_OF_EIGHT && more; k++) {
                keepIfBetter();
                more = nextGrouping();
            }
            return bestLost;
        }

        /** Puts the MOTIONS into the GROUPS that come next, MOTION by MOTION; false behind the last. */
        private boolean nextGrouping() {
            for (int i = many - 1; i > 0; i--) {
                int next = at(inGroup, i) + 1;
                if (next < mostGroups && next <= groupsAhead(i)) {
                    set(inGroup, i, next);
                    for (int k = i + 1; k < many; k++) {
                        set(inGroup, k, 0);
                    }
                    return true;
                }
            }
            return false;
        }

        /** How many GROUPS the MOTIONS ahead of this one are in. */
        private int groupsAhead(int end) {
            int groups = 0;
            for (int i = 0; i < end; i++) {
                groups = Math.max(groups, at(inGroup, i) + 1);
            }
            return groups;
        }

        private void keepIfBetter() {
            int groups = groupsAhead(many);
            int lost = lostByGroups();
            if (lost == NONE) {
                return;
            }
            if (bestLost == NONE || lost < bestLost || lost == bestLost && groups < bestGroups) {
                bestLost = lost;
                bestGroups = groups;
                copy(inGroup, bestInGroup);
            }
        }

        /** LOST LINES of all GROUPS together; NONE if one of them can't be a COMPOSITE. */
        private int lostByGroups() {
            fill(members, 0);
            for (int i = 0; i < many; i++) {
                int g = at(inGroup, i);
                set(members, g, at(members, g) | 1 << i);
            }
            int lost = 0;
            for (int g = 0; g < members.length; g++) {
                int lostHere = at(lostBy, at(members, g));
                if (lostHere == NONE) {
                    return NONE;
                }
                lost += lostHere;
            }
            return lost;
        }

        int groupOf(int motion) {
            for (int i = 0; i < many; i++) {
                if (at(motions, i) == motion) {
                    return at(bestInGroup, i);
                }
            }
            return NONE;
        }
    }

    /** WORTHS, and what they make of MOTIONS in an order and of DEALS. */
    private static final class Worths {
        static final int DEAL = 6;
        // What a turned VOICE changes is -1 to 1; this says that there is no VOICE to turn.
        private static final int NO_VOICE = 2;

        private final Register register;
        private final Papers papers;
        private final Floor floor;
        private final Count count;
        private final int[] worthOf = new int[MOST_AFFILIATES * MOST_MOTIONS];
        private final int[] motions = new int[MOST_IN_ORDER];
        int many;
        private final int[] passFree = new int[MOST_IN_ORDER];
        private final int[] passAgainst = new int[MOST_IN_ORDER];
        private final int[] contraryBits = new int[MOST_IN_ORDER];
        private final long[] saidBits = new long[MOST_IN_ORDER];
        private final long[] deniedBits = new long[MOST_IN_ORDER];
        private final int[] order = new int[MOST_IN_ORDER];
        private final int[] bestOrder = new int[MOST_IN_ORDER];
        private final int[] change = new int[MOST_AFFILIATES * MOST_MOTIONS];
        private final int[] theDeal = new int[DEAL];

        Worths(Register register, Papers papers, Floor floor, Count count) {
            this.register = register;
            this.papers = papers;
            this.floor = floor;
            this.count = count;
        }

        boolean tell(int affiliate, int motion, int v) {
            set(worthOf, affiliate * MOST_MOTIONS + motion, v);
            return true;
        }

        private int worthFor(int affiliate, int motion) {
            return at(worthOf, affiliate * MOST_MOTIONS + motion);
        }

        private void countMotion(int motion, Rules rules) {
            count.take(motion, register.today);
            count.weigh(rules, BY_CARDS);
            count.sumUp(NONE);
        }

        private int passesNow(Rules rules, int against) {
            return count.passes(rules, KIND_MOTION, against, register.today) ? 1 : 0;
        }

        /** Looks up once what no order changes: the counts of the MOTIONS, and which are contrary. */
        boolean prepare(int bits) {
            many = floor.chosen(bits, motions);
            Rules rules = papers.inForce(floor.force);
            for (int i = 0; i < many; i++) {
                int motion = at(motions, i);
                countMotion(motion, rules);
                set(passFree, i, passesNow(rules, 0));
                set(passAgainst, i, passesNow(rules, 1));
                set(contraryBits, i, contraryTo(motion));
                set(saidBits, i, floor.bitsOf(motion, 1));
                set(deniedBits, i, floor.bitsOf(motion, -1));
            }
            return many > 0;
        }

        private int contraryTo(int motion) {
            int bits = 0;
            for (int i = 0; i < many; i++) {
                bits |= floor.areContrary(motion, at(motions, i)) ? 1 << i : 0;
            }
            return bits;
        }

        boolean readOrder(int figures) {
            int rest = figures;
            int seen = 0;
            for (int place = many - 1; place >= 0; place--) {
                int i = rest % 10 - 1;
                if (i < 0 || i >= many || (seen >>> i & 1) != 0) {
                    return false;
                }
                seen |= 1 << i;
                set(order, place, i);
                rest /= 10;
            }
            return rest == 0;
        }

        /** WORTH for an AFFILIATE of the order that is laid down. */
        int along(int affiliate) {
            long said = floor.said;
            long denied = floor.denied;
            int fallen = 0;
            int sum = 0;
            for (int place = 0; place < many; place++) {
                int i = at(order, place);
                long yes = at(saidBits, i);
                long no = at(deniedBits, i);
                boolean against = (yes & denied | no & said) != 0L;
                if ((fallen >>> i & 1) == 0 && at(against ? passAgainst : passFree, i) == 1) {
                    sum += worthFor(affiliate, at(motions, i));
                    said = said & ~no | yes;
                    denied = denied & ~yes | no;
                    fallen |= at(contraryBits, i);
                }
            }
            return sum;
        }

        int findBest(int affiliate) {
            for (int i = 0; i < many; i++) {
                set(order, i, i);
            }
            int greatest = along(affiliate);
            copy(order, bestOrder);
            for (int k = 0; k < ALL_ORDERS_OF_SIX && nextOrder(); k++) {
                int sum = along(affiliate);
                if (sum > greatest) {
                    greatest = sum;
                    copy(order, bestOrder);
                }
            }
            return greatest;
        }

        /** Lays down the order that comes next by numbers; false behind the last one. */
        private boolean nextOrder() {
            int left = many - 2;
            while (left >= 0 && at(order, left) > at(order, left + 1)) {
                left--;
            }
            if (left < 0) {
                return false;
            }
            int right = many - 1;
            while (right > left && at(order, right) < at(order, left)) {
                right--;
            }
            swap(left, right);
            int high = many - 1;
            for (int low = left + 1; low < high; low++) {
                swap(low, high);
                high--;
            }
            return true;
        }

        private void swap(int i, int k) {
            int was = at(order, i);
            set(order, i, at(order, k));
            set(order, k, was);
        }

        int bestMotionAt(int place) {
            return at(motions, at(bestOrder, place));
        }

        int dealField(int what) {
            return at(theDeal, what);
        }

        boolean findDeal() {
            for (int m = 0; m < papers.motions; m++) {
                findChanges(m);
            }
            fill(theDeal, 0);
            for (int a = 0; a < register.affiliates; a++) {
                for (int b = a + 1; b < register.affiliates; b++) {
                    findDealOf(a, b);
                }
            }
            return at(theDeal, 4) > 0;
        }

        /** What it changes on a MOTION (it passes then, or no more) if one AFFILIATE turns its VOICE. */
        private void findChanges(int motion) {
            for (int a = 0; a < register.affiliates; a++) {
                set(change, a * MOST_MOTIONS + motion, NO_VOICE);
            }
            if (floor.stateOf(motion) != OPEN) {
                return;
            }
            Rules rules = papers.inForce(floor.force);
            int against = floor.against(motion);
            countMotion(motion, rules);
            int now = passesNow(rules, against);
            for (int a = 0; a < register.affiliates; a++) {
                if (count.voiceTaken(a) != NOTHING) {
                    count.sumUp(a);
                    set(change, a * MOST_MOTIONS + motion, passesNow(rules, against) - now);
                }
            }
        }

        private void findDealOf(int a, int b) {
            for (int m = 0; m < papers.motions; m++) {
                if (at(change, a * MOST_MOTIONS + m) == NO_VOICE) {
                    continue;
                }
                for (int n = 0; n < papers.motions; n++) {
                    if (n != m && at(change, b * MOST_MOTIONS + n) != NO_VOICE) {
                        keepIfBetter(a, b, m, n);
                    }
                }
            }
        }

        private void keepIfBetter(int a, int b, int m, int n) {
            int onM = at(change, a * MOST_MOTIONS + m);
            int onN = at(change, b * MOST_MOTIONS + n);
            if (onM == 0 && onN == 0) {
                return;
            }
            int gainA = worthFor(a, m) * onM + worthFor(a, n) * onN;
            int gainB = worthFor(b, m) * onM + worthFor(b, n) * onN;
            if (gainA > 0 && gainB > 0 && gainA + gainB > at(theDeal, 4) + at(theDeal, 5)) {
                set(theDeal, 0, a);
                set(theDeal, 1, b);
                set(theDeal, 2, m);
                set(theDeal, 3, n);
                set(theDeal, 4, gainA);
                set(theDeal, 5, gainB);
            }
        }
    }
}
