import java.io.IOException;
import java.lang.reflect.Constructor;
import java.lang.reflect.Field;
import java.lang.reflect.Method;
import java.lang.reflect.Modifier;
import java.nio.file.Files;
import java.nio.file.Path;
import java.util.ArrayList;
import java.util.Arrays;
import java.util.List;
import java.util.TreeSet;
import java.util.regex.Matcher;
import java.util.regex.Pattern;

/** The public face as the document tells it, and rules of LANGUAGE.md that can be seen from outside. */
public final class LanguageTest {
    private static final Path SOURCE = Path.of("src/main/java/CountedTrials.java");
    private static final String[] FACE = {
        "int letter(int)", "int blank()", "int fault()", "int roads()", "int road(int,int)", "int as(int,int)",
        "int worsen(int,int)", "int licence(int,boolean)", "int pilgrim()", "int about(int,int)",
        "int walk(int,int)", "int together(int,int,int)", "int rest(int)", "int enter(int)", "int way(int,int)",
        "int bars(int)", "int most(int,int)", "int bridge(int)", "int log(int)", "int forget()", "int walks()",
        "int walksBy(int)", "int last()", "int months(int,int,int)", "int image()", "int restore()",
        "int count(int)", "long digest()"
    };
    private static final String[] CONSTANTS = {"NONE", "UNKNOWN", "OUTSIDE", "STATE", "FULL"};
    private static final List<Class<?>> CONSTANT_TYPES = List.of(int.class, long.class, boolean.class, char.class,
        String.class, int[].class, long[].class, char[].class, byte[].class);
    private static final int LONGEST_METHOD = 60;
    private static int wrong = 0;

    public static void main(String[] args) throws IOException {
        face();
        insideClasses();
        String code = codeOf(Files.readString(SOURCE));
        words(code);
        library(code);
        methods(code);
        System.out.println(wrong == 0 ? "the language is kept" : wrong + " rules are broken");
        if (wrong != 0) {
            System.exit(1);
        }
    }

    private static void check(boolean holds, String what) {
        if (!holds) {
            wrong++;
            System.out.println("not as due: " + what);
        }
    }

    private static void face() {
        Class<?> c = CountedTrials.class;
        check(Modifier.isPublic(c.getModifiers()) && Modifier.isFinal(c.getModifiers()), "public and final");
        Constructor<?>[] made = c.getDeclaredConstructors();
        check(made.length == 1 && Modifier.isPublic(made[0].getModifiers()) && made[0].getParameterCount() == 0,
            "one public constructor");
        TreeSet<String> methods = new TreeSet<>();
        List<String> hidden = new ArrayList<>();
        for (Method m : c.getDeclaredMethods()) {
            if (Modifier.isPublic(m.getModifiers())) {
                methods.add(told(m));
            } else {
                check(Modifier.isPrivate(m.getModifiers()), m + " is private");
                hidden.add(m.getName());
            }
        }
        check(methods.equals(new TreeSet<>(Arrays.asList(FACE))), "the face, not " + methods);
        for (Method m : c.getMethods()) {
            check(!hidden.contains(m.getName()), m.getName() + " names a public method alone");
        }
        fields(c);
    }

    private static void fields(Class<?> c) {
        TreeSet<String> constants = new TreeSet<>();
        for (Field f : c.getDeclaredFields()) {
            int is = f.getModifiers();
            if (Modifier.isPublic(is)) {
                check(Modifier.isStatic(is) && Modifier.isFinal(is) && f.getType() == int.class, f + " is a constant");
                constants.add(f.getName());
            } else {
                check(Modifier.isPrivate(is), f + " is private");
            }
        }
        check(constants.equals(new TreeSet<>(Arrays.asList(CONSTANTS))), "the constants, not " + constants);
    }

    private static String told(Method m) {
        List<String> types = new ArrayList<>();
        for (Class<?> type : m.getParameterTypes()) {
            types.add(type.getName());
        }
        return m.getReturnType().getName() + " " + m.getName() + "(" + String.join(",", types) + ")";
    }

    private static List<Class<?>> allClasses() {
        List<Class<?>> all = new ArrayList<>(Arrays.asList(CountedTrials.class.getDeclaredClasses()));
        all.add(CountedTrials.class);
        return all;
    }

    private static void insideClasses() {
        List<Class<?>> all = allClasses();
        check(all.size() <= 12, "at most some twelve classes");
        List<String> face = new ArrayList<>();
        for (String method : FACE) {
            face.add(method.replaceAll(".* |\\(.*", ""));
        }
        for (Class<?> c : all) {
            if (c != CountedTrials.class) {
                check(Modifier.isStatic(c.getModifiers()) && !Modifier.isPublic(c.getModifiers()), c + " is static and hidden");
                for (Method m : c.getDeclaredMethods()) {
                    check(!face.contains(m.getName()), m + " has a name of its own");
                }
            }
            int own = 0;
            for (Field f : c.getDeclaredFields()) {
                boolean isStatic = Modifier.isStatic(f.getModifiers());
                check(!isStatic || Modifier.isFinal(f.getModifiers()), f + " is final");
                check(isStatic ? CONSTANT_TYPES.contains(f.getType()) : isOwnOrNumbers(f.getType()),
                    f + " is of a type that rules 3 and 5 name");
                own += isStatic ? 0 : 1;
            }
            check(own <= 20, c + " has at most some twenty fields");
            for (Method m : c.getDeclaredMethods()) {
                check(m.getParameterCount() <= 7, m + " has at most seven parameters");
            }
        }
    }

    /** A number, a row of numbers, one of the classes inside or a row of these. */
    private static boolean isOwnOrNumbers(Class<?> type) {
        Class<?> one = type.isArray() ? type.getComponentType() : type;
        return one.isPrimitive() || one.getDeclaringClass() == CountedTrials.class;
    }

    private static void words(String code) {
        String[] unwanted = {
            "\\bthrow\\b", "\\bthrows\\b", "\\btry\\b", "\\bcatch\\b", "\\bsynchronized\\b", "\\bassert\\b",
            "\\bimport\\b", "\\bpackage\\b", "->", "::", "Exact\\b", "\\bstatic\\s*\\{", "\\bSystem\\.(?!arraycopy\\b)",
            "\\bhashCode\\b", "\\btoString\\b", "\\bRandom\\b", "\\bThread\\b", "\\bObject\\b", "while \\(true\\)",
            "for \\(;;"
        };
        for (String word : unwanted) {
            Matcher m = Pattern.compile(word).matcher(code);
            check(!m.find(), "no " + word);
        }
        for (int i = 0; i < code.length(); i++) {
            check(code.charAt(i) < 128, "plain signs alone");
        }
    }

    /** Of what is called by a name with a capital, only the classes inside and the functions of rule 4. */
    private static void library(String code) {
        List<String> inside = new ArrayList<>();
        for (Class<?> c : CountedTrials.class.getDeclaredClasses()) {
            inside.add(c.getSimpleName());
        }
        Matcher m = Pattern.compile("\\b([A-Z][a-z]\\w*)\\.(\\w+)").matcher(code);
        while (m.find()) {
            boolean listed = m.group().matches("(Math|Integer|Long)\\.(compare|max|min|abs|bitCount|floorDiv|floorMod)"
                + "|System\\.arraycopy|Arrays\\.(copyOf|copyOfRange|fill)");
            check(inside.contains(m.group(1)) || listed, m.group() + " is of the library's list");
        }
    }

    /** Methods stay short, and only constructors (and first values of fields) make objects. */
    private static void methods(String code) {
        Matcher m = Pattern.compile("(?m)^ +((?:\\w+ )*(?:[\\w\\[\\]]+ )?(\\w+)\\([^()]*\\)) \\{$").matcher(code);
        int found = 0;
        while (m.find()) {
            if (m.group(1).matches("(if|for|while|switch|else|do|return)\\b.*")) {
                continue;
            }
            found++;
            String body = code.substring(m.end(), endOfBlock(code, m.end()));
            check(body.split("\n").length <= LONGEST_METHOD, m.group(1) + " is short");
            boolean isConstructor = Character.isUpperCase(m.group(2).charAt(0));
            check(isConstructor || !Pattern.compile("\\bnew\\b").matcher(body).find(), m.group(1) + " makes no object");
        }
        int declared = 0;
        for (Class<?> c : allClasses()) {
            declared += c.getDeclaredMethods().length;
        }
        check(found >= declared, "the source shows all " + declared + " methods, not " + found);
    }

    /** Where the block ends whose "{" stands ahead of this place. */
    private static int endOfBlock(String code, int from) {
        int depth = 1;
        for (int i = from; i < code.length(); i++) {
            depth += code.charAt(i) == '{' ? 1 : code.charAt(i) == '}' ? -1 : 0;
            if (depth == 0) {
                return i;
            }
        }
        return code.length();
    }

    private static String codeOf(String source) {
        return source.replaceAll("(?s)/\\*.*?\\*/", "").replaceAll("//[^\\n]*", "").replaceAll("\"[^\"\\n]*\"", "\"\"");
    }
}
