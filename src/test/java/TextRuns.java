import java.util.ArrayList;
import java.util.List;

/** Texts made and spoilt TOKEN by TOKEN, read by CardHall beside Model: the same number or FAULT, place and meaning. */
public final class TextRuns {
    private static final String[] TOKENS = {"pass", "motion", "amend", "order", "if", "cards", "rate", "length", "bind", "late", "not",
        "and", "or", "yes", "no", "all", "sections", "against", "day", "heads", "branches", "souls", "section", "lines", "say", "must",
        "strike", "add", "turn", "[", "]", "(", ")", "<", ">", "=", "+", "-", "*", "/", ";", ";", "0", "1", "7", "12", "13", "60", "61",
        "999", "1000", "9999", "12345", "00012", "zoo", "z", "!", "A", "\t"};
    private static final String[] WHOLE = {
        "pass motion if yes > no and not [ against = 1 or day < 3 ] ; rate 999 ; cards ( heads + 2 ) * branches / 3 - section ;",
        "late if lines < 3 and heads > 0 ; length 12 ; bind ; pass order if not not [ [ yes + 1 = all ] or 7 / 0 = 0 ] ;",
        "cards ( ( ( ( 1 ) ) ) ) + ( souls ) * 9999 * 9999 ; pass amend if [ [ [ ( yes ) > 1 ] ] ] and [ no < 2 ] or sections = 1 ;",
        "bind ; bind ; bind ; bind ; bind ; bind ; bind ; bind ; bind ; bind ; bind ; bind ; bind ; bind ; rate 1 ;",
        "say 1 ; say not 2 must ; say 60 must ; say not 12 ;",
        "say 1 ; say 2 ; say 3 ; say 4 ; say 5 ; say 6 ; say 7 ; say 8 ; say 9 ; say 10 ; say 11 ; say 12 ;",
        "strike 1 ; add 2 ; add not 60 ; turn 7 ; strike 12 ; turn 13 ;",
        "add 1 ;"};

    private long seed;

    private TextRuns(long seed) {
        this.seed = seed * 104729 + 31;
    }

    public static void main(String[] args) {
        int runs = args.length > 0 ? Integer.parseInt(args[0]) : 20000;
        int first = args.length > 1 ? Integer.parseInt(args[1]) : 0;
        for (int i = first; i < first + runs; i++) {
            new TextRuns(i).read(i);
        }
        Check.finish("TextRuns");
    }

    private int pick(int n) {
        seed = seed * 6364136223846793005L + 1442695040888963407L;
        return (int) ((seed >>> 33) % n);
    }

    private String text() {
        List<String> tokens = new ArrayList<>(List.of(WHOLE[pick(WHOLE.length)].split(" ")));
        for (int k = pick(4); k > 0; k--) {
            int at = pick(tokens.size());
            switch (pick(5)) {
                case 0: tokens.remove(at); break;
                case 1: tokens.add(at, TOKENS[pick(TOKENS.length)]); break;
                case 2: tokens.add(at, tokens.get(pick(tokens.size()))); break;
                case 3: tokens.subList(at, tokens.size()).clear(); break;
                default: tokens.set(at, TOKENS[pick(TOKENS.length)]); break;
            }
            if (tokens.isEmpty()) {
                return "";
            }
        }
        StringBuilder s = new StringBuilder();
        for (String t : tokens) {
            s.append(t).append(pick(4) == 0 ? "" : pick(4) == 0 ? "\n" : " ");
        }
        s.setLength(Math.min(s.length(), 300));
        return s.toString();
    }

    private void read(int number) {
        CardHall x = Check.hall(30, 20);
        Model y = new Model();
        for (int a = 0; a < 2; a++) {
            y.affiliate(a);
            y.branch(a, 10);
            y.heads(a, 30 - a * 10);
            y.dues(a, 300 - a * 100);
        }
        Check.put(x, "say 7;");
        y.tape.append("say 7;");
        Check.due(13, "motion", x.motion(0), y.motion(0));
        for (int sort = 0; sort < 3; sort++) {
            String text = text();
            Check.put(x, text);
            y.tape.setLength(0);
            y.tape.append(text);
            String what = "text " + number + ": " + text;
            Check.due(12 + sort, what, sort == 0 ? x.orders() : sort == 1 ? x.motion(0) : x.amend(0),
                sort == 0 ? y.orders() : sort == 1 ? y.motion(0) : y.amend(0));
            Check.due(15, what, x.place(), y.place);
        }
        x.casts(0, 0, 1);
        y.casts(0, 0, 1);
        for (int m : new int[] {0, 1, 100}) {
            for (int how = 0; how < 4; how++) {
                Check.due(31, "would of text " + number, x.would(m, how), y.would(m, how));
            }
        }
        for (int a = 0; a < 2; a++) {
            Check.due(17, "cards by text " + number, x.cards(a, 0), y.cards(a, 0));
            Check.due(16, "paid by text " + number, x.paid(a, 0), y.paid(a, 0));
        }
        Check.due(7, "bound by text " + number, x.casts(0, 0, 0), y.casts(0, 0, 0));
        Check.due(27, "lost by text " + number, x.lost(3), y.lost(3));
    }
}
