import java.lang.reflect.Constructor;
import java.lang.reflect.Field;
import java.lang.reflect.Method;
import java.lang.reflect.Modifier;
import java.nio.file.Files;
import java.nio.file.Path;
import java.util.HashSet;
import java.util.List;
import java.util.Set;
import java.util.TreeSet;
import java.util.regex.Matcher;
import java.util.regex.Pattern;

/** The class has the document's face and no other, and its file keeps to what a program can see of the language. */
public final class FaceTest {
    private static final String[] FACE = {
        "int feed(int,int,int,int,int)", "boolean end(int)", "int fault(int)", "int text(int)", "int rule(int)",
        "int dancer(int,int)", "int stands(int)", "boolean law(int)", "int step(int,int)", "int plait(int,int)",
        "int cross(int,boolean)", "int beat()", "int dance(int)", "int down(int)", "int longer(int,int)",
        "int give(int)", "int years(int,long)", "int status(int)", "int undo()", "int log(int,int)",
        "int takes(int,boolean)", "int bound(int,int)", "int letOut(int)", "int behind(int,int,int)",
        "int rounds(int)", "int knot(int)", "int same(int,int)", "int nearest(int,int)", "int times(int)",
        "int seen(int,int,int,boolean)", "int fits()", "int ask(int)", "int stripe(int)",
        "int game(int,int,int,int)", "int rests(int,int)", "int odds(int,int,int)", "int shares(int,int)",
        "int most(int)", "int image()", "int back()", "int count(int)"};

    /** What rule 4 leaves of the library's static members: functions alone, no constant of the library. */
    private static final Pattern STATIC = Pattern.compile("\\b(Integer|Long|Math|Arrays|System|String|Character|List)\\.\\w+.?");
    private static final Pattern LEFT = Pattern.compile("(Integer|Long|Math)\\.(compare|max|min|abs|bitCount|floorDiv|floorMod)\\("
        + "|System\\.arraycopy\\(|Arrays\\.(copyOf|copyOfRange|fill)\\(");

    private FaceTest() {
    }

    public static void main(String[] args) throws Exception {
        members();
        nested();
        source(Files.readAllLines(Path.of(System.getProperty("ribbonpole.root", "."), "src/main/java/RibbonPole.java")));
        Check.finish();
    }

    private static void members() throws Exception {
        Class<?> type = RibbonPole.class;
        Check.due("public final", Modifier.PUBLIC | Modifier.FINAL, type.getModifiers());
        Set<String> want = new TreeSet<>(List.of(FACE));
        Set<String> got = new TreeSet<>();
        Set<String> names = new HashSet<>();
        for (Method method : type.getDeclaredMethods()) {
            if (!Modifier.isPrivate(method.getModifiers())) {
                got.add(told(method));
                names.add(method.getName());
            }
        }
        Check.due("the face is " + got, true, want.equals(got));
        Class<?>[] thrown = type.getMethod("dancer", int.class, int.class).getExceptionTypes();
        Check.due("dancer declares one exception", 1, thrown.length);
        for (Field field : type.getDeclaredFields()) {
            boolean constant = field.getName().equals("NONE") || field.getName().equals("HIDDEN");
            Check.due("private: " + field.getName(), !constant, Modifier.isPrivate(field.getModifiers()));
        }
        Constructor<?>[] constructors = type.getDeclaredConstructors();
        Check.due("constructors", 1, constructors.length);
        Check.due("public constructor", true, Modifier.isPublic(constructors[0].getModifiers()));
        privateNames(type, names);
        for (Class<?> inside : type.getDeclaredClasses()) {
            privateNames(inside, names);
        }
    }

    private static String told(Method method) {
        StringBuilder text = new StringBuilder(method.getReturnType() + " " + method.getName() + "(");
        for (int i = 0; i < method.getParameterCount(); i++) {
            text.append(i == 0 ? "" : ",").append(method.getParameterTypes()[i]);
        }
        return text.append(")").toString();
    }

    private static void privateNames(Class<?> type, Set<String> names) {
        for (Method method : type.getDeclaredMethods()) {
            boolean own = type == RibbonPole.class && !Modifier.isPrivate(method.getModifiers());
            Check.due(type + " bears a name of the face: " + method.getName(), own, names.contains(method.getName()));
            Check.due("parameters of " + method.getName(), true, method.getParameterCount() <= 7);
        }
    }

    private static void nested() {
        Class<?>[] inside = RibbonPole.class.getDeclaredClasses();
        Check.due("twelve classes at most", true, inside.length < 12);
        for (Class<?> type : inside) {
            Check.due("static: " + type, true, Modifier.isStatic(type.getModifiers()));
            int fields = 0;
            for (Field field : type.getDeclaredFields()) {
                fields += Modifier.isStatic(field.getModifiers()) ? 0 : 1;
            }
            Check.due("twenty fields at most: " + type, true, fields <= 20);
        }
    }

    private static void source(List<String> lines) {
        Pattern banned = Pattern.compile("->|::|\\b(try|catch|finally|assert|synchronized|package|protected|instanceof"
            + "|double|float|Object|System\\.(?!arraycopy)\\w+)\\b");
        Pattern method = Pattern.compile("^( +)(?!.*\\b(class|new|return)\\b)[\\w\\[\\] ]+ ?\\w+\\([^;]*\\{$");
        int opened = 0;
        String indent = null;
        for (int i = 0; i < lines.size(); i++) {
            String code = lines.get(i).replaceAll("^\\s*(//|/?\\*).*", "");
            Check.due("line " + (i + 1) + " holds what the language leaves out: " + code, false, banned.matcher(code).find());
            library(i + 1, code);
            if (code.startsWith("import")) {
                Check.due(code, true, code.equals("import java.util.NoSuchElementException;"));
            }
            Matcher matcher = method.matcher(code);
            if (indent == null && matcher.matches()) {
                indent = matcher.group(1);
                opened = i;
            } else if (indent != null && code.equals(indent + "}")) {
                Check.due("sixty lines at most from line " + (opened + 1), true, i - opened <= 60);
                indent = null;
            }
        }
    }

    private static void library(int line, String code) {
        Matcher used = STATIC.matcher(code);
        while (used.find()) {
            boolean left = LEFT.matcher(used.group()).matches();
            Check.due("line " + line + " uses " + used.group() + " which rule 4 leaves", true, left);
        }
    }
}
