import java.lang.reflect.Method;
import java.util.ArrayList;
import java.util.Arrays;
import java.util.Comparator;
import java.util.List;
import java.util.Random;

/** Long runs of calls, by fixed seeds: each answer, and all that can be seen behind it, against the model's. */
public final class AgainstModelTest {
    private static final int RUNS = 700;
    private static final int CALLS = 512;
    private static final Due DUE = new Due("AgainstModelTest");
    private static final List<Method> METHODS = methods();
    private static final List<String> LIVELY = List.of("draw", "undo", "set", "soon", "props", "ahead", "moved", "keep", "on", "mark");

    public static void main(String[] args) throws Exception {
        for (int seed = 1; seed <= RUNS && DUE.wrong() == 0; seed++) {
            new AgainstModelTest(seed).run(seed);
        }
        DUE.end();
    }

    private static List<Method> methods() {
        List<Method> all = new ArrayList<>(Arrays.asList(DryBargains.class.getDeclaredMethods()));
        all.removeIf(m -> !java.lang.reflect.Modifier.isPublic(m.getModifiers()));
        all.sort(Comparator.comparing(Method::getName));
        return all;
    }

    private static Method named(String name) {
        return METHODS.stream().filter(m -> m.getName().equals(name)).findFirst().orElseThrow();
    }

    private final Random random;
    private final DryBargains x = new DryBargains();
    private final Model model = new Model();
    private final List<String> told = new ArrayList<>();
    private int calls;

    private AgainstModelTest(int seed) {
        random = new Random(seed);
    }

    private void run(int seed) throws Exception {
        DUE.promise("seed " + seed);
        if (seed % 10 != 0) {
            layWall(seed % 3 == 0);
        }
        boolean agreed = random.nextInt(3) > 0;
        for (int p = 0; agreed && p < 6; p++) {
            call("yes", p, 1);
        }
        while (calls < CALLS && DUE.wrong() == 0) {
            Method m = METHODS.get(random.nextInt(METHODS.size()));
            boolean lively = random.nextInt(3) == 0;
            // too much of these, and the wall is bare, or all vine: nothing can be drawn any more
            boolean dull = List.of("text", "wall", "frost", "vine", "go").contains(m.getName());
            if (lively) {
                String name = LIVELY.get(random.nextInt(LIVELY.size()));
                call(name, arguments(named(name)));
            } else if (!dull || random.nextInt(8) == 0) {
                call(m.getName(), arguments(m));
            }
            if (random.nextInt(150) == 0) {
                layWall(random.nextBoolean());
            }
        }
        if (DUE.wrong() > 0) {
            System.out.println(String.join("\n", told));
        }
    }

    private Object[] arguments(Method m) {
        Object[] a = new Object[m.getParameterCount()];
        for (int i = 0; i < a.length; i++) {
            a[i] = argument(m.getName(), i);
        }
        return a;
    }

    private int argument(String name, int i) {
        if (random.nextInt(40) == 0) {
            int[] odd = {-1, -9, 40, 41, 100, 101, 31, 32, 33, 14, 15, Integer.MAX_VALUE, Integer.MIN_VALUE, 1 << 14};
            return odd[random.nextInt(odd.length)];
        }
        int blocks = Math.max(1, model.count(0));
        switch (name + i) {
            case "falls0":
            case "alone0":
            case "few0":
                return random.nextInt(1 << blocks) & (random.nextBoolean() ? -1 : random.nextInt(1 << blocks));
            case "brick0":
            case "mark0":
            case "hang0":
            case "hang1":
            case "wedge0":
            case "vine0":
            case "load0":
            case "asks0":
            case "draw0":
            case "ahead0":
            case "rests0":
            case "props0":
            case "odds0":
                return random.nextInt(blocks);
            case "frost0":
                return random.nextInt(Integer.MAX_VALUE);
            case "odds1":
            case "frost1":
                return random.nextInt(14);
            case "row1":
                return random.nextInt(12);
            case "copy4":
            case "copy1":
            case "copy3":
                return random.nextInt(6);
            case "lay2":
            case "put2":
                return random.nextInt(3) == 0 ? random.nextInt() : random.nextInt(200) - 100;
            case "put1":
                return random.nextInt(80);
            case "wedge1":
            case "yes1":
                return random.nextInt(5) == 0 ? 0 : 1;
            case "go0":
                return random.nextInt(3);
            case "set0":
                return Math.min(random.nextInt(7), random.nextInt(7));
            case "set1":
                return random.nextInt(10);
            case "keep0":
            case "on0":
            case "moved0":
                return random.nextInt(4);
            case "mark1":
                return 1 + random.nextInt(5);
            default:
                return random.nextInt(8);
        }
    }

    /** A wall of blocks that mostly stand; now and then a text that has a fault. */
    private void layWall(boolean faulty) throws Exception {
        int width = 2 + random.nextInt(8);
        StringBuilder s = new StringBuilder(blanks() + "w" + width);
        boolean[][] full = new boolean[6][12];
        int wanted = random.nextInt(16);
        for (int i = 0, tries = 0; i < wanted && tries < 400; tries++) {
            String kinds = "bbbbcftra";
            char kind = kinds.charAt(random.nextInt(kinds.length()));
            int course = Math.min(random.nextInt(6), random.nextInt(6));
            int half = random.nextInt(width);
            int size = kind == 'r' || kind == 'a' ? 3 : 2;
            boolean room = half + size <= width;
            boolean borne = course == 0;
            for (int h = half; room && h < half + size; h++) {
                room = !full[course][h];
                borne |= course > 0 && full[course - 1][h];
            }
            if (room && (borne || random.nextInt(6) == 0) || faulty && random.nextInt(40) == 0) {
                s.append(blanks()).append(kind).append(course).append(half).append(marks(kind));
                i++;
                for (int h = half; h < half + size; h++) {
                    full[course][h] = true;
                }
            }
        }
        s.append(blanks());
        if (faulty && s.length() > 0 && random.nextBoolean()) {
            String signs = " wbcftra0123456789ABCDEFGxX:/@";
            s.setCharAt(random.nextInt(s.length()), signs.charAt(random.nextInt(signs.length())));
        }
        write(s.length() > 100 ? s.substring(0, 100) : s.toString());
    }

    private String blanks() {
        return " ".repeat(random.nextInt(4) / 3 * random.nextInt(3));
    }

    private String marks(char kind) {
        List<String> people = new ArrayList<>(List.of("A", "B", "C", "D", "E", "F"));
        java.util.Collections.shuffle(people, random);
        return String.join("", people.subList(0, kind == 't' ? 3 : 2));
    }

    private void write(String text) throws Exception {
        int t = random.nextInt(4);
        if (calls + text.length() + 3 > CALLS) {
            return;
        }
        call("text", t, text.length());
        for (int i = 0; i < text.length(); i++) {
            if (text.charAt(i) != ' ') {
                call("put", t, i, (int) text.charAt(i));
            }
        }
        call("fault", t);
        call("wall", t);
    }

    private static long answer(Object of, String name, Object[] a) throws Exception {
        Class<?>[] types = new Class<?>[a.length];
        Arrays.fill(types, int.class);
        return ((Number) of.getClass().getMethod(name, types).invoke(of, a)).longValue();
    }

    private void call(String name, Object... a) throws Exception {
        calls++;
        String call = name + Arrays.toString(a);
        long got = answer(x, name, a);
        told.add(call + " = " + got);
        DUE.is(call, got, answer(model, name, a));
        if (name.equals("put")) {
            return;
        }
        DUE.is(call + ", asked()", x.asked(), model.asked());
        DUE.is(call + ", upper()", x.upper(), model.upper());
        DUE.is(call + ", lower()", x.lower(), model.lower());
        DUE.is(call + ", finding()", x.finding(), model.finding());
        DUE.is(call + ", digest()", x.digest(), model.digest());
        for (int f = 1; f <= 5; f++) {
            DUE.is(call + ", findings(" + f + ")", x.findings(f), model.findings(f));
        }
    }
}
