import java.lang.management.ManagementFactory;
import java.lang.reflect.Constructor;
import java.lang.reflect.Field;
import java.lang.reflect.Method;
import java.lang.reflect.Modifier;
import java.nio.file.Files;
import java.nio.file.Path;
import java.util.ArrayList;
import java.util.List;
import java.util.Set;
import java.util.TreeSet;
import java.util.regex.Matcher;
import java.util.regex.Pattern;

/** The public face of the document, and those rules of LANGUAGE.md that can be seen from outside or in the source. */
public final class FaceTest {
    private static final String FACE = "row2 lay3 at2 tear1 copy5 mean1 text2 put3 fault1 wall1 brick2 mark2 yes2 heir2 "
        + "hang2 wedge2 vine1 stands0 falls1 load1 great0 asks1 draw1 free0 undo0 ahead2 rests1 props1 set4 soon0 owes2 "
        + "rich0 alone1 few1 moved1 frost2 odds2 go1 keep1 on1 asked0 upper0 lower0 count1 finding0 findings1 digest0";
    private static final Set<String> LONGS = Set.of("upper", "lower", "digest");
    private static final Due DUE = new Due("FaceTest");

    public static void main(String[] args) throws Exception {
        methods();
        constants();
        others();
        names();
        String source = source();
        words(source);
        sizes(source);
        room();
        DUE.end();
    }

    private static void methods() {
        DUE.promise("the public methods");
        Set<String> want = new TreeSet<>(List.of(FACE.split(" ")));
        Set<String> got = new TreeSet<>();
        for (Method m : DryBargains.class.getDeclaredMethods()) {
            if (Modifier.isPublic(m.getModifiers())) {
                got.add(m.getName() + m.getParameterCount());
                DUE.is(m + " is none of the object", Modifier.isStatic(m.getModifiers()) ? 1 : 0, 0);
                Class<?> due = LONGS.contains(m.getName()) ? long.class : int.class;
                DUE.is(m + " answers " + due, m.getReturnType() == due ? 1 : 0, 1);
                for (Class<?> type : m.getParameterTypes()) {
                    DUE.is(m + " takes ints", type == int.class ? 1 : 0, 1);
                }
            }
        }
        DUE.is("methods " + got, got.equals(want) ? 1 : 0, 1);
        DUE.is("how many", got.size(), 47);
        DUE.is("public and final", DryBargains.class.getModifiers() & (Modifier.PUBLIC | Modifier.FINAL),
            Modifier.PUBLIC | Modifier.FINAL);
    }

    private static void constants() throws Exception {
        DUE.promise("the constants");
        int[] due = {-1, -2, -3, -4, -6, -9};
        String[] names = {"BAD", "FULL", "FINDING", "STATE", "SPENT", "NONE"};
        for (int i = 0; i < names.length; i++) {
            Field f = DryBargains.class.getField(names[i]);
            DUE.is(names[i], f.getInt(null), due[i]);
            DUE.is(names[i] + " is final", Modifier.isFinal(f.getModifiers()) ? 1 : 0, 1);
        }
        DUE.is("no other public one", DryBargains.class.getFields().length, 6);
    }

    private static void others() {
        DUE.promise("rule 1: no other member but private ones");
        for (Field f : DryBargains.class.getDeclaredFields()) {
            boolean ok = Modifier.isPrivate(f.getModifiers()) || Modifier.isPublic(f.getModifiers());
            DUE.is(f.toString(), ok ? 1 : 0, 1);
        }
        for (Method m : DryBargains.class.getDeclaredMethods()) {
            boolean ok = Modifier.isPrivate(m.getModifiers()) || Modifier.isPublic(m.getModifiers());
            DUE.is(m.toString(), ok ? 1 : 0, 1);
        }
        Constructor<?>[] all = DryBargains.class.getDeclaredConstructors();
        DUE.is("one constructor", all.length, 1);
        DUE.is("without arguments", all[0].getParameterCount(), 0);
        for (Class<?> c : DryBargains.class.getDeclaredClasses()) {
            DUE.is(c + " is static", Modifier.isStatic(c.getModifiers()) ? 1 : 0, 1);
            DUE.is(c + " is not open", c.getModifiers() & (Modifier.PUBLIC | Modifier.PROTECTED), 0);
        }
        DUE.is("some twelve classes at most", DryBargains.class.getDeclaredClasses().length <= 11 ? 1 : 0, 1);
    }

    private static void names() {
        DUE.promise("rule 1: names; rules 5, 11: fields and parameters");
        Set<String> face = new TreeSet<>();
        for (String name : FACE.split(" ")) {
            face.add(name.substring(0, name.length() - 1));
        }
        List<Class<?>> classes = new ArrayList<>(List.of(DryBargains.class.getDeclaredClasses()));
        classes.add(DryBargains.class);
        for (Class<?> c : classes) {
            int fields = 0;
            for (Field f : c.getDeclaredFields()) {
                boolean fixed = Modifier.isFinal(f.getModifiers());
                DUE.is(f + " is no static state", Modifier.isStatic(f.getModifiers()) && !fixed ? 1 : 0, 0);
                fields += Modifier.isStatic(f.getModifiers()) ? 0 : 1;
            }
            DUE.is(c + " has some twenty fields at most", fields <= 20 ? 1 : 0, 1);
            for (Method m : c.getDeclaredMethods()) {
                boolean own = !Modifier.isPublic(m.getModifiers());
                DUE.is(m + " bears a public name", own && face.contains(m.getName()) ? 1 : 0, 0);
                DUE.is(m + " takes seven at most", m.getParameterCount() <= 7 ? 1 : 0, 1);
            }
        }
    }

    private static String source() throws Exception {
        String all = Files.readString(Path.of("src/main/java/DryBargains.java"));
        return all.replaceAll("(?s)/\\*.*?\\*/", "").replaceAll("//[^\n]*", "");
    }

    private static void words(String source) {
        DUE.promise("rules 4 and 6: words that may not stand there");
        String[] none = {"\\bimport\\b", "\\bpackage\\b", "\\bthrow", "\\btry\\b", "\\bcatch\\b", "\\bsynchronized\\b",
            "\\bassert\\b", "->", "::", "Exact\\b", "\\bequals\\b", "\\bhashCode\\b", "\\btoString\\b", "\\bprotected\\b",
            "\\bnative\\b", "\\bThread\\b", "\\bSystem\\.(?!arraycopy)", "\\bdouble\\b", "\\bfloat\\b", "[^\\x00-\\x7f]"};
        for (String word : none) {
            Matcher m = Pattern.compile(word).matcher(source);
            DUE.is("'" + word + "' stands there", m.find() ? 1 : 0, 0);
        }
    }

    private static void sizes(String source) {
        DUE.promise("rule 11: methods stay short");
        Matcher m = Pattern.compile("(?m)^( {4}| {8})(?! )[^\n;=]*\\([^\n]*\\) \\{\n(?s:.*?)\n\\1\\}").matcher(source);
        int methods = 0;
        while (m.find()) {
            methods++;
            long lines = m.group().lines().count();
            DUE.is(m.group().lines().findFirst().orElse("") + " is short", lines <= 60 ? 1 : 0, 1);
        }
        DUE.is("methods were seen", methods > 100 ? 1 : 0, 1);
    }

    /** All that the class holds is made by its constructor, so that a run of calls needs no room of its own. */
    private static void room() {
        DUE.promise("the room");
        com.sun.management.ThreadMXBean bean = (com.sun.management.ThreadMXBean) ManagementFactory.getThreadMXBean();
        DryBargains x = Due.wall("w9 b00AB b02BC b04CD t06DEF b11EF r13FA c21AC b23BD a35CE b25FB");
        use(x);
        long before = bean.getCurrentThreadAllocatedBytes();
        for (int i = 0; i < 1000; i++) {
            use(x);
        }
        long bytes = bean.getCurrentThreadAllocatedBytes() - before;
        DUE.is("calls make no objects (" + bytes + " bytes)", bytes < 10000 ? 1 : 0, 1);
        before = bean.getCurrentThreadAllocatedBytes();
        DryBargains y = new DryBargains();
        bytes = bean.getCurrentThreadAllocatedBytes() - before;
        DUE.is("an object is small (" + bytes + " bytes)", bytes < 20000 && y.count(0) == 0 ? 1 : 0, 1);
    }

    private static void use(DryBargains x) {
        x.on(0);
        x.wall(0);
        Due.allSayYes(x);
        x.keep(0);
        x.ahead(1, 2);
        x.props(1);
        x.odds(5, 5);
        x.free();
        x.great();
        x.soon();
        x.few(1023);
        x.alone(7);
        x.rich();
        x.draw(9);
        x.undo();
        x.frost(5, 5);
        x.vine(0);
        x.go(5);
        x.fault(0);
        x.digest();
    }
}
