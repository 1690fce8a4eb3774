import java.io.IOException;
import java.lang.reflect.Array;
import java.lang.reflect.Constructor;
import java.lang.reflect.Field;
import java.lang.reflect.Method;
import java.lang.reflect.Modifier;
import java.nio.file.Files;
import java.nio.file.Path;
import java.util.ArrayDeque;
import java.util.Collections;
import java.util.IdentityHashMap;
import java.util.List;
import java.util.NoSuchElementException;
import java.util.Set;
import java.util.TreeSet;
import java.util.regex.Matcher;
import java.util.regex.Pattern;

/** The public face, the room that objects take, and those rules of LANGUAGE.md that a look at the text can tell. */
public final class FaceTest {
    private static final Set<String> FACE = Set.of(
        "int affiliate(int)", "int branch(int,int)", "boolean heads(int,int)", "boolean dues(int,int)",
        "boolean mandate(int,int,int)", "boolean casts(int,int,int)", "int day(int)", "boolean closing(int)",
        "int feed(int,int,int,int,int)", "int end(int)", "int orders()", "int motion(int)", "int amend(int)",
        "int place()", "int paid(int,int)", "int cards(int,int)", "int voice(int,int,int,int)",
        "int counted(int,int,int)", "int broken(int,int)", "int decide(int)", "int voids(int)", "int row(int,int)",
        "int how(int)", "int line(int,int,int)", "int stands(int)", "int lost(int)", "int composite(int)",
        "int group(int,int)", "int grouped(int,int,int)", "int would(int,int)", "boolean worth(int,int,int)",
        "int inOrder(int,int,int)", "int best(int,int,int)", "int deal(int)", "int count(int)");

    public static void main(String[] args) throws IOException, ReflectiveOperationException {
        face();
        inside();
        text();
        methods();
        room();
        wildNumbers();
        Check.finish("FaceTest");
    }

    private static String signature(Method m) {
        StringBuilder s = new StringBuilder(m.getReturnType() + " " + m.getName() + "(");
        for (Class<?> p : m.getParameterTypes()) {
            s.append(s.charAt(s.length() - 1) == '(' ? "" : ",").append(p);
        }
        return s.append(")").toString();
    }

    private static void face() throws ReflectiveOperationException {
        Set<String> found = new TreeSet<>();
        for (Method m : CardHall.class.getDeclaredMethods()) {
            if (!Modifier.isPrivate(m.getModifiers())) {
                found.add(signature(m));
            }
        }
        Check.due(1, "the face is " + found, found.equals(FACE), true);
        Check.due(1, "NONE", CardHall.NONE, -1);
        Check.due(1, "final", Modifier.isFinal(CardHall.class.getModifiers()), true);
        for (Field f : CardHall.class.getDeclaredFields()) {
            boolean none = f.getName().equals("NONE");
            Check.due(1, f + " private", Modifier.isPrivate(f.getModifiers()), !none);
        }
        for (Constructor<?> c : CardHall.class.getDeclaredConstructors()) {
            Check.due(1, "constructor " + c, c.getParameterCount() == 0, true);
        }
        Class<?>[] thrown = CardHall.class.getMethod("row", int.class, int.class).getExceptionTypes();
        Check.due(23, "row throws", thrown.length == 1 && thrown[0] == NoSuchElementException.class, true);
    }

    private static void inside() {
        Set<String> names = new TreeSet<>();
        for (String s : FACE) {
            names.add(s.substring(s.indexOf(' ') + 1, s.indexOf('(')));
        }
        Class<?>[] classes = CardHall.class.getDeclaredClasses();
        Check.due(1, "classes", classes.length <= 12, true);
        for (Class<?> c : classes) {
            Check.due(1, c + " static, private", Modifier.isStatic(c.getModifiers())
                && Modifier.isPrivate(c.getModifiers()), true);
            int fields = 0;
            for (Field f : c.getDeclaredFields()) {
                fields += Modifier.isStatic(f.getModifiers()) ? 0 : 1;
            }
            Check.due(1, c + " fields", fields <= 20, true);
            for (Method m : c.getDeclaredMethods()) {
                Check.due(1, m + " bears a name of the face", names.contains(m.getName()), false);
                Check.due(1, m + " parameters", m.getParameterCount() <= 7, true);
            }
        }
    }

    private static void text() throws IOException {
        String source = Files.readString(Path.of("src/main/java/CardHall.java"));
        String[] never = {"->", "::", "synchronized", "assert ", "finally", "catch", "instanceof", "Exact(", "float",
            "System.", "Thread", "Random", "package ", "Object", ".hashCode", "static {", "Arrays.", "NaN", "var "};
        for (String s : never) {
            Check.due(1, "the text has " + s, source.contains(s), false);
        }
        int imports = 0;
        for (String l : source.split("\n")) {
            imports += l.startsWith("import ") ? 1 : 0;
            Check.due(1, "signs 1 to 127: " + l, l.matches("\\p{ASCII}*"), true);
        }
        Check.due(1, "imports", imports, 1);
    }

    /** Rules 8 and 11: a private method that is not static does not call itself, and methods are short. */
    private static void methods() throws IOException {
        List<String> lines = Files.readAllLines(Path.of("src/main/java/CardHall.java"));
        Pattern head = Pattern.compile("( {4}| {8})(?! |if|for|while|switch|else|return)[\\w\\[\\] ]*?(\\w+)\\(.*\\{");
        int found = 0;
        for (int i = 0; i < lines.size(); i++) {
            Matcher m = head.matcher(lines.get(i));
            if (!m.matches()) {
                continue;
            }
            found++;
            Pattern itself = Pattern.compile("(^|[^.\\w])" + m.group(2) + "\\(");
            int end = i + 1;
            while (!lines.get(end).equals(m.group(1) + "}")) {
                boolean overload = m.group(2).equals("at") || m.group(2).equals("set");
                Check.due(1, lines.get(i) + " calls itself", !overload && itself.matcher(lines.get(end)).find(), false);
                end++;
            }
            Check.due(1, lines.get(i) + " has at most sixty lines", end - i <= 60, true);
        }
        Check.due(1, "methods found: " + found, found > 150, true);
    }

    /** Objects and arrays that hang on this one, and their fields and elements. */
    private static int[] roomOf(CardHall x) throws ReflectiveOperationException {
        Set<Object> seen = Collections.newSetFromMap(new IdentityHashMap<>());
        ArrayDeque<Object> left = new ArrayDeque<>();
        int[] room = new int[2];
        left.add(x);
        while (!left.isEmpty()) {
            Object o = left.poll();
            if (!seen.add(o)) {
                continue;
            }
            room[0]++;
            if (o.getClass().isArray()) {
                room[1] += Array.getLength(o);
                for (int i = 0; i < Array.getLength(o) && !o.getClass().getComponentType().isPrimitive(); i++) {
                    left.add(Array.get(o, i));
                }
                continue;
            }
            for (Field f : o.getClass().getDeclaredFields()) {
                if (!Modifier.isStatic(f.getModifiers())) {
                    room[1]++;
                    f.setAccessible(true);
                    if (!f.getType().isPrimitive()) {
                        left.add(f.get(o));
                    }
                }
            }
        }
        return room;
    }

    private static void room() throws ReflectiveOperationException {
        CardHall x = new CardHall();
        int[] first = roomOf(x);
        Check.due(1, "objects " + first[0], first[0] <= 300, true);
        Check.due(1, "elements " + first[1], first[1] <= 14000, true);
        fill(x);
        int[] last = roomOf(x);
        Check.due(1, "objects behind many calls", last[0], first[0]);
        Check.due(1, "elements behind many calls", last[1], first[1]);
    }

    private static void fill(CardHall x) {
        for (int i = 0; i < 12; i++) {
            x.affiliate(i % 6);
            x.branch(i, 5);
            x.heads(i, 90);
            x.dues(i, 900 + i);
        }
        for (int i = 0; i < 24; i++) {
            Check.motion(x, i % 12, "say " + (i + 1) + "; say not " + (i + 30) + " must;");
            Check.amend(x, i, "turn " + (i + 1) + ";");
            Check.orders(x, "pass motion if yes > no and [day < 5 or (yes) = 3];");
            for (int a = 0; a < 12; a++) {
                x.casts(a, i, a * i % 3);
                x.worth(a, i, a - i % 5);
            }
        }
        x.group(0xff, 3);
        x.best(0x3f, 0, 0);
        x.deal(0);
        x.decide(100);
        x.decide(0);
        x.voids(1);
        x.composite(0xf0);
    }

    /** No number whatever makes a call throw, but for row. */
    private static void wildNumbers() throws ReflectiveOperationException {
        int[] wild = {Integer.MIN_VALUE, -1000000, -101, -2, -1, 0, 1, 2, 7, 23, 24, 31, 32, 33, 63, 64, 99, 100, 139,
            140, 199, 200, 209, 210, 255, 256, 999999, 0x00ffffff, 0x01000000, Integer.MAX_VALUE};
        for (int round = 0; round < 2; round++) {
            CardHall x = new CardHall();
            if (round == 1) {
                fill(x);
            }
            for (Method m : CardHall.class.getDeclaredMethods()) {
                if (!Modifier.isPublic(m.getModifiers())) {
                    continue;
                }
                for (int first = 0; first < wild.length; first++) {
                    for (int i = 0; i < wild.length; i++) {
                        call(x, m, wild, first, i);
                    }
                }
            }
        }
    }

    private static void call(CardHall x, Method m, int[] wild, int first, int i) throws ReflectiveOperationException {
        Object[] numbers = new Object[m.getParameterCount()];
        for (int k = 0; k < numbers.length; k++) {
            numbers[k] = wild[(k == 0 ? first : i * k) % wild.length];
        }
        String thrown = "nothing";
        try {
            m.invoke(x, numbers);
        } catch (java.lang.reflect.InvocationTargetException e) {
            thrown = e.getCause().getClass().getSimpleName();
        }
        boolean good = thrown.equals("nothing") || m.getName().equals("row") && thrown.equals("NoSuchElementException");
        Check.due(1, m.getName() + " " + java.util.Arrays.toString(numbers) + " throws " + thrown, good, true);
    }
}
