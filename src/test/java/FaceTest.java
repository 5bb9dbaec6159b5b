import java.io.IOException;
import java.lang.reflect.Constructor;
import java.lang.reflect.Field;
import java.lang.reflect.Member;
import java.lang.reflect.Method;
import java.lang.reflect.Modifier;
import java.nio.file.Files;
import java.nio.file.Path;
import java.util.ArrayList;
import java.util.List;
import java.util.Set;
import java.util.TreeSet;
import java.util.regex.Matcher;
import java.util.regex.Pattern;

/** The document's face, and the rules of LANGUAGE.md that a program can look for. */
final class FaceTest {
    private static final Check CHECK = new Check("FaceTest");
    private static final String[] FACE = {
        "int grave(int)", "int has(int,int,int)", "int of(int,int)", "int type(int,int)", "int drop(int)",
        "int count(int)", "int orders(int)", "int gapless(int)", "int fewest(int)", "int ends(int,int,int)",
        "int clusters()", "int knots(int)", "int knot(int,int)", "long told()", "int spoils(int)", "int gaps(int)",
        "int runs(int)", "int kinship(int)", "int kin(int)", "int shared(int,int)", "int chain(int)", "int walk(int)",
        "int turned(int)", "int rank(int)", "int swap(int,int,int)", "int feed(int)", "int read()", "int spell()",
        "int paper(int)", "int tray(int,int)", "int lay(int,int)", "int laid(int,int)", "int list(int,int)",
        "int put(int,int,int)", "int get(int,int)", "int fill(int,int)", "int judge(int,int)", "int image()",
        "int undo()"};
    private static final String[] BANNED = {"\\bthrows?\\b", "\\btry\\b", "\\bcatch\\b", "\\bsynchronized\\b",
        "\\bassert\\b", "->", "::", "\\bimport\\b", "\\bpackage\\b", "\\bprotected\\b", "\\bMath\\.random\\b",
        "Exact\\b", "\\bSystem\\.(?!arraycopy)", "\\bThread\\b", "\\bvolatile\\b", "\\bObject\\b", "\\bstatic \\{",
        "\\bString\\b", "java\\."};
    /** What the class takes from the library, of all that LANGUAGE.md lists. */
    private static final Set<String> LIBRARY = Set.of("Integer.bitCount", "Integer.numberOfTrailingZeros", "Math.max",
        "Math.min", "System.arraycopy", "Long.MIN_VALUE");
    private static final int MOST_LINES = 60;
    private static final int MOST_PARAMETERS = 7;
    private static final int MOST_CLASSES = 12;
    private static final int MOST_FIELDS = 20;

    public static void main(String[] args) throws IOException {
        constants();
        members();
        nested();
        source(Files.readString(Path.of("src/main/java/FindOrder.java")));
        CHECK.end();
    }

    private static void constants() {
        CHECK.due("NONE", FindOrder.NONE, -1);
        CHECK.due("BAD", FindOrder.BAD, -2);
        CHECK.due("STATE", FindOrder.STATE, -3);
        CHECK.due("FULL", FindOrder.FULL, -4);
        CHECK.due("NOT", FindOrder.NOT, -5);
        CHECK.due("NO_ITEM", FindOrder.NO_ITEM, -2000000000);
        CHECK.due("NO", FindOrder.NO, Long.MIN_VALUE);
    }

    private static void members() {
        Class<?> type = FindOrder.class;
        CHECK.due("public and final", type.getModifiers(), Modifier.PUBLIC | Modifier.FINAL);
        Set<String> due = new TreeSet<>(List.of(FACE));
        Set<String> found = new TreeSet<>();
        Set<String> names = new TreeSet<>();
        List<Member> inside = new ArrayList<>();
        for (Method method : type.getDeclaredMethods()) {
            if (method.getModifiers() == Modifier.PUBLIC) {
                names.add(method.getName());
                found.add(method.getReturnType() + " " + method.getName() + "("
                    + List.of(method.getParameterTypes()).toString().replaceAll("[\\[\\] ]", "") + ")");
            } else {
                inside.add(method);
            }
        }
        CHECK.due("the face's methods: " + found, found.equals(due) ? 1 : 0, 1);
        for (Member member : inside) {
            CHECK.due("private: " + member, member.getModifiers() & Modifier.PRIVATE, Modifier.PRIVATE);
            CHECK.due("its own name: " + member, names.contains(member.getName()) ? 1 : 0, 0);
        }
        int fields = 0;
        for (Field field : type.getDeclaredFields()) {
            int modifiers = field.getModifiers();
            boolean constant = modifiers == (Modifier.PUBLIC | Modifier.STATIC | Modifier.FINAL);
            boolean hidden = Modifier.isPrivate(modifiers);
            CHECK.due("constant or private: " + field, constant || hidden ? 1 : 0, 1);
            fields += Modifier.isStatic(modifiers) ? 0 : 1;
        }
        CHECK.due("fields: " + fields, fields <= MOST_FIELDS ? 1 : 0, 1);
        Constructor<?>[] constructors = type.getDeclaredConstructors();
        CHECK.due("one constructor", constructors.length, 1);
        CHECK.due("without arguments", constructors[0].getParameterCount(), 0);
    }

    private static void nested() {
        Class<?>[] classes = FindOrder.class.getDeclaredClasses();
        CHECK.due("classes: " + classes.length, classes.length < MOST_CLASSES ? 1 : 0, 1);
        for (Class<?> type : classes) {
            int modifiers = type.getModifiers();
            CHECK.due("static: " + type, Modifier.isStatic(modifiers) ? 1 : 0, 1);
            CHECK.due("not public: " + type, Modifier.isPublic(modifiers) ? 1 : 0, 0);
            int fields = 0;
            for (Field field : type.getDeclaredFields()) {
                boolean fixed = Modifier.isStatic(field.getModifiers());
                CHECK.due("final: " + field, !fixed || Modifier.isFinal(field.getModifiers()) ? 1 : 0, 1);
                fields += fixed ? 0 : 1;
            }
            CHECK.due("fields of " + type, fields <= MOST_FIELDS ? 1 : 0, 1);
            for (Method method : type.getDeclaredMethods()) {
                CHECK.due("its own name: " + method, isOfFace(method.getName()) ? 1 : 0, 0);
                CHECK.due("parameters: " + method, method.getParameterCount() <= MOST_PARAMETERS ? 1 : 0, 1);
            }
        }
    }

    private static boolean isOfFace(String name) {
        for (String method : FACE) {
            if (method.matches("\\w+ " + name + "\\(.*")) {
                return true;
            }
        }
        return false;
    }

    private static void source(String text) {
        String code = text.replaceAll("(?s)/\\*.*?\\*/", "").replaceAll("//.*", "");
        for (String banned : BANNED) {
            Matcher matcher = Pattern.compile(banned).matcher(code);
            CHECK.due("nowhere: " + banned, matcher.find() ? 1 : 0, 0);
        }
        Set<String> own = new TreeSet<>();
        for (Class<?> type : FindOrder.class.getDeclaredClasses()) {
            own.add(type.getSimpleName());
        }
        Matcher used = Pattern.compile("\\b([A-Z]\\w*[a-z]\\w*)\\.(\\w+)").matcher(code);
        while (used.find()) {
            boolean listed = own.contains(used.group(1)) || LIBRARY.contains(used.group());
            CHECK.due("in the library's list: " + used.group(), listed ? 1 : 0, 1);
        }
        CHECK.due("signs 1 to 127", text.chars().allMatch(sign -> sign > 0 && sign < 128) ? 1 : 0, 1);
        String[] lines = code.split("\n");
        for (int i = 0; i < lines.length; i++) {
            String indent = lines[i].replaceAll("\\S.*", "");
            if (lines[i].matches(" {4,8}\\w[\\w\\[\\] ]*\\(.*\\) \\{")) {
                int end = i;
                while (!lines[end].equals(indent + "}")) {
                    end++;
                }
                CHECK.due("length of" + lines[i], end - i < MOST_LINES ? 1 : 0, 1);
            }
        }
    }
}
