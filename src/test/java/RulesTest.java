import java.lang.reflect.Constructor;
import java.lang.reflect.Field;
import java.lang.reflect.Method;
import java.lang.reflect.Modifier;
import java.nio.file.Files;
import java.nio.file.Path;
import java.util.ArrayList;
import java.util.List;
import java.util.Set;
import java.util.TreeSet;
import java.util.regex.Matcher;
import java.util.regex.Pattern;

/** The face of the class, and the rules of LANGUAGE.md that a look at the source can tell. */
public final class RulesTest {
    private static final Checks CHECKS = new Checks("RulesTest");

    private static final String[] FACE = {
        "int feed(int,int,int,int,int)", "int end(int)", "int enter()", "int fault(int)", "int undo()", "int save()",
        "int tape(int)", "int go()", "int back()", "int jump(int)", "boolean hold(boolean)", "int advance(int)",
        "int fader(int,int)", "int bump(int,boolean)", "int grand(int)", "boolean black(boolean)", "int run(int,boolean)",
        "int slot(int)", "int level(int,int)", "int shown(int)", "int tracked(int,int,int)", "int origin(int,int,int)",
        "int change(int,int,int)", "int held(int,int)", "int cue(int,int)", "int unit(int,int)", "int group(int,int)",
        "int palette(int,int)", "int sub(int,int)", "int masters(int)", "int park(int)", "int event(int,int)",
        "int wave(int,int)", "int state(int)"};

    private static final String[] FORBIDDEN = {
        "\\bthrow\\b", "\\btry\\b", "\\bcatch\\b", "\\bassert\\b", "\\bsynchronized\\b", "->", "::", "\\bimport (?!java\\.util\\.Arrays;)",
        "\\bprotected\\b", "\\bString\\[\\]", "\\bpackage\\b", "\\bExact\\b", "\\bfloat\\b", "\\bdouble\\b", "\" *\\+", "\\+ *\"", "static \\{",
        "\\bthrows\\b", "\\bSystem\\.(?!arraycopy)", "\\bhashCode\\b", "\\bThread\\b", "\\bRandom\\b", "new \\w+\\(.*\\) \\{"};

    public static void main(String[] args) throws Exception {
        face();
        source(Files.readString(Path.of("src/main/java/LightDesk.java")));
        CHECKS.finish();
    }

    private static void face() throws Exception {
        Set<String> due = new TreeSet<>(List.of(FACE));
        Set<String> names = new TreeSet<>();
        Set<String> got = new TreeSet<>();
        for (Method method : LightDesk.class.getDeclaredMethods()) {
            if (!Modifier.isPrivate(method.getModifiers()) && !method.isSynthetic()) {
                got.add(described(method));
                names.add(method.getName());
            }
        }
        CHECKS.same("the public methods", got.toString(), due.toString());
        for (Class<?> inside : classes()) {
            CHECKS.same(inside.getName() + " is static", inside == LightDesk.class || Modifier.isStatic(inside.getModifiers()), true);
            CHECKS.same(inside.getName() + " is not public",
                inside != LightDesk.class && (Modifier.isPublic(inside.getModifiers()) || Modifier.isProtected(inside.getModifiers())), false);
            CHECKS.same(inside.getName() + " has few fields", countOwn(inside) <= 20, true);
            for (Method method : inside.getDeclaredMethods()) {
                boolean isOther = inside != LightDesk.class || Modifier.isPrivate(method.getModifiers());
                CHECKS.same(method + " bears the name of a public one", isOther && names.contains(method.getName()), false);
                CHECKS.same(method + " has at most seven parameters", method.getParameterCount() <= 7, true);
            }
            for (Field field : inside.getDeclaredFields()) {
                if (Modifier.isStatic(field.getModifiers())) {
                    CHECKS.same(field + " is final", Modifier.isFinal(field.getModifiers()), true);
                }
                boolean mayBeSeen = Modifier.isPrivate(field.getModifiers()) || field.getName().equals("NONE");
                CHECKS.same(field + " is private", inside != LightDesk.class || mayBeSeen, true);
            }
        }
        CHECKS.same("how many classes", classes().size() <= 12, true);
        CHECKS.same("the class is public and final", Modifier.isPublic(LightDesk.class.getModifiers())
            && Modifier.isFinal(LightDesk.class.getModifiers()), true);
        Constructor<?>[] constructors = LightDesk.class.getDeclaredConstructors();
        CHECKS.same("one constructor", constructors.length, 1);
        CHECKS.same("a public one without parameters",
            Modifier.isPublic(constructors[0].getModifiers()) && constructors[0].getParameterCount() == 0, true);
        CHECKS.same("NONE", LightDesk.NONE, -1);
    }

    private static List<Class<?>> classes() {
        List<Class<?>> all = new ArrayList<>();
        all.add(LightDesk.class);
        all.addAll(List.of(LightDesk.class.getDeclaredClasses()));
        return all;
    }

    private static int countOwn(Class<?> inside) {
        int count = 0;
        for (Field field : inside.getDeclaredFields()) {
            if (!Modifier.isStatic(field.getModifiers())) {
                count++;
            }
        }
        return count;
    }

    private static String described(Method method) {
        StringBuilder text = new StringBuilder(method.getReturnType() + " " + method.getName() + "(");
        for (int i = 0; i < method.getParameterCount(); i++) {
            text.append(i > 0 ? "," : "").append(method.getParameterTypes()[i]);
        }
        return text.append(")").toString();
    }

    private static void source(String source) {
        String code = source.replaceAll("(?s)/\\*.*?\\*/", "").replaceAll("//[^\n]*", "");
        for (String forbidden : FORBIDDEN) {
            Matcher matcher = Pattern.compile(forbidden).matcher(code);
            CHECKS.same("the source has " + forbidden, matcher.find() ? matcher.group() : "", "");
        }
        String[] lines = source.split("\n");
        int begun = -1;
        for (int i = 0; i < lines.length; i++) {
            boolean opens = lines[i].matches("    (    )?(public |private |static |final )*\\w+(\\[\\])* ?\\w*\\(.*\\) \\{");
            if (opens) {
                begun = i;
            }
            if (lines[i].matches("    (    )?\\}") && begun >= 0) {
                CHECKS.same("lines of " + lines[begun].trim() + " are few", i - begun <= 60, true);
                begun = -1;
            }
        }
    }
}
