import java.lang.reflect.Constructor;
import java.lang.reflect.Field;
import java.lang.reflect.Method;
import java.lang.reflect.Modifier;
import java.nio.charset.StandardCharsets;
import java.nio.file.Files;
import java.nio.file.Path;
import java.util.ArrayList;
import java.util.Arrays;
import java.util.HashSet;
import java.util.LinkedHashMap;
import java.util.List;
import java.util.Map;
import java.util.Set;
import java.util.TreeSet;
import java.util.regex.Matcher;
import java.util.regex.Pattern;

/** The face of the document, and those rules of LANGUAGE.md that can be seen from outside. */
public final class LanguageTest {
    private static final String FACE = "type(long,int)int cut(int)int spoil(int,int)int tapeAt(int)int problem()int fault()int "
        + "drop(int)boolean count(int,int)int find(int)int letter(int,int,int,int)int shown(int,int,int)int range(int,int,int)long "
        + "rule(int,int,int)int fact(int,int)long change(int,int,int)boolean value(int,int)long put(int,int,int)boolean "
        + "pin(int,int,boolean)boolean weigh(int,int,int)int broken(int,int)int aim(int,int)long score(int,int)long "
        + "feasible(int)boolean reach(int)int isLeft(int,int,int)boolean hopeless(int)int solve(int)int best(int,int)long "
        + "bests(int)int bestAt(int,int)boolean feasibles(int)int feasibleAt(int,int)boolean has(int,int,int,boolean)int "
        + "choices(int,int)int mend(int,int)int front(int)int frontAt(int,int,int)long frontPlan(int,int)boolean "
        + "near(int,boolean)int clash(int)int fewest(int)int relax(int)int without(int,int,int)long whyNot(int,int,int,int)long "
        + "because(int,int,int)int future(int,int)int told(int,int,int,int)boolean unfold(int)int robust(int)int "
        + "expected(int,int)long regret(int,int)long search(int,int,int,int,int)int searched(int)int check(int)int prove(int)int "
        + "above()long below()long save(int)int load(int)int rows()int size()int byteAt(int)int crash(int)int take()int bring()int";

    private static final String TYPES = "\\[?[ISBCJZ]|\\[?LPlanningHouse(\\$[A-Za-z]+)?;|Ljava/lang/String;";
    private static final String LIBRARY = "java\\.lang\\.(Object\\.<init>|String\\.(charAt|length|indexOf\\(I\\))|Math\\.(abs|min|max)\\("
        + "|Integer\\.(bitCount|numberOfTrailingZeros)\\(|System\\.arraycopy).*|java\\.util\\.Arrays\\.(copyOf|fill)\\(\\[[ISBJ].*";
    /** invokedynamic, athrow, checkcast, instanceof, monitorenter, monitorexit, and all steps on floats and doubles. */
    private static final int[] BANNED_STEPS = {186, 191, 192, 193, 194, 195, 11, 12, 13, 14, 15, 98, 99, 102, 103, 106, 107, 110, 111,
        114, 115, 118, 119, 134, 135, 137, 138, 139, 140, 141, 142, 143, 144, 149, 150, 151, 152};

    public static void main(String[] args) throws Exception {
        face();
        inside();
        words();
        compiled();
        Due.end();
    }

    private static void face() {
        Class<?> house = PlanningHouse.class;
        Due.is("public and final", Modifier.isPublic(house.getModifiers()) && Modifier.isFinal(house.getModifiers()), true);
        Set<String> methods = new TreeSet<>();
        for (Method m : house.getDeclaredMethods()) {
            if (m.isSynthetic()) continue;
            if (!Modifier.isPublic(m.getModifiers())) {
                Due.is("private: " + m.getName(), Modifier.isPrivate(m.getModifiers()), true);
                continue;
            }
            StringBuilder told = new StringBuilder(m.getName()).append('(');
            for (Class<?> type : m.getParameterTypes()) told.append(told.charAt(told.length() - 1) == '(' ? "" : ",").append(type);
            methods.add(told.append(')').append(m.getReturnType()).toString());
        }
        Due.same("the methods", methods.toString(), new TreeSet<>(Arrays.asList(FACE.split(" "))).toString());
        Set<String> fields = new TreeSet<>();
        for (Field f : house.getDeclaredFields()) {
            if (Modifier.isPublic(f.getModifiers())) fields.add(f.getType() + " " + f.getName());
            else Due.is("private: " + f.getName(), Modifier.isPrivate(f.getModifiers()), true);
        }
        Due.same("the constants", fields.toString(), "[int FULL, int NONE, long NO]");
        Constructor<?>[] made = house.getDeclaredConstructors();
        Due.is("one constructor", made.length, 1);
        Due.is("public", Modifier.isPublic(made[0].getModifiers()) && made[0].getParameterCount() == 0, true);
    }

    private static void inside() {
        Set<String> names = new HashSet<>();
        for (Method m : PlanningHouse.class.getMethods()) names.add(m.getName());
        Class<?>[] classes = PlanningHouse.class.getDeclaredClasses();
        Due.is("at most twelve classes", classes.length + 1 <= 12, true);
        for (Class<?> c : classes) {
            int how = c.getModifiers();
            Due.is("static: " + c, Modifier.isStatic(how) && !Modifier.isPublic(how) && !Modifier.isProtected(how), true);
            Due.is("none inside: " + c, c.getDeclaredClasses().length, 0);
            for (Method m : c.getDeclaredMethods()) {
                Due.is("no name of the face: " + m, names.contains(m.getName()), false);
                Due.is("seven parameters: " + m, m.getParameterCount() <= 7, true);
            }
        }
        for (Class<?> c : classes) fields(c);
        fields(PlanningHouse.class);
    }

    private static void fields(Class<?> c) {
        int own = 0;
        for (Field f : c.getDeclaredFields()) {
            if (!Modifier.isStatic(f.getModifiers())) own++;
            else Due.is("static and final: " + f, Modifier.isFinal(f.getModifiers()), true);
        }
        Due.is("some twenty fields: " + c, own <= 20, true);
    }

    private static void words() throws Exception {
        String source = Files.readString(Path.of("src/main/java/PlanningHouse.java"), StandardCharsets.ISO_8859_1);
        Due.is("signs 1 to 127", source.chars().allMatch(c -> c > 0 && c < 128), true);
        String code = source.replaceAll("(?s)/\\*.*?\\*/", "").replaceAll("//[^\n]*", "").replaceAll("\"[^\"\n]*\"|'[^'\n]*'", "0");
        String[] banned = {"throw", "throws", "try", "catch", "synchronized", "assert", "package", "native", "volatile", "transient",
            "var", "Object", "System\\.out", "hashCode", "toString", "interface .* default", "float", "double"};
        for (String word : banned) Due.is("no " + word, Pattern.compile("\\b" + word + "\\b").matcher(code).find(), false);
        Due.is("no lambda", code.contains("->"), false);
        Due.is("no method reference", code.contains("::"), false);
        Due.is("no Exact", code.contains("Exact("), false);
        Matcher imports = Pattern.compile("import ([^;]*);").matcher(code);
        while (imports.find()) Due.same("import", imports.group(1), "java.util.Arrays");
        Matcher whiles = Pattern.compile("\\bwhile\\b|for \\(;;\\)").matcher(code);
        Due.is("no loop without a counter", whiles.find(), false);
        methodsAreShort(source.split("\n"));
    }

    /** What the compiler made of the program, for what can't be seen from outside. */
    private static void compiled() throws Exception {
        List<ClassFile> files = new ArrayList<>(List.of(new ClassFile(PlanningHouse.class)));
        for (Class<?> c : PlanningHouse.class.getDeclaredClasses()) files.add(new ClassFile(c));
        Map<String, Set<String>> calls = new LinkedHashMap<>();
        for (ClassFile file : files) calls.putAll(file.calls);
        for (ClassFile file : files) {
            Due.is(file.name + " catches nothing", file.catching.isEmpty(), true);
            for (String type : file.types) Due.is("a type of rule 3: " + type, type.matches(TYPES), true);
            for (String method : file.steps.keySet()) {
                for (int step : BANNED_STEPS) Due.is("no step " + step + " in " + method, file.steps.get(method).contains(step), false);
                Due.is("writes no static field: " + method, file.writing.contains(method) && !method.contains("<clinit>"), false);
                for (String called : file.calls.get(method)) {
                    Due.is("in the library of rule 4: " + called, calls.containsKey(called) || called.matches(LIBRARY), true);
                }
            }
        }
        Map<String, List<String>> chains = ClassFile.chains(files);
        for (String method : chains.keySet()) {
            Due.is("at most eight calls deep: " + chains.get(method), chains.get(method).size() <= 8, true);
            boolean again = ClassFile.reached(method, calls).contains(method);
            String owner = method.substring(0, method.indexOf('.'));
            Due.is("calls itself: " + method, again && !owner.matches("PlanningHouse\\$(Reader|Proof)"), false);
        }
    }

    private static void methodsAreShort(String[] lines) {
        int from = -1;
        for (int i = 0; i < lines.length; i++) {
            if (lines[i].matches("(    |        )[A-Za-z].*\\) \\{")) from = i;
            if (lines[i].matches("(    |        )\\}") && from >= 0) {
                Due.is("at most sixty lines: " + lines[from].trim(), i - from + 1 <= 60, true);
                from = -1;
            }
        }
    }
}
