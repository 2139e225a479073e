import java.lang.reflect.Constructor;
import java.lang.reflect.Field;
import java.lang.reflect.Method;
import java.lang.reflect.Modifier;
import java.nio.file.Files;
import java.nio.file.Path;
import java.util.ArrayList;
import java.util.Arrays;
import java.util.HashSet;
import java.util.List;
import java.util.Set;
import java.util.TreeSet;
import java.util.regex.Matcher;
import java.util.regex.Pattern;

/** The rules of LANGUAGE.md that can be seen from outside: the face, sizes, and words that must not stand in the source. */
public final class LanguageTest {
    private static final List<String> FACE = List.of("int sign(int)", "boolean end(int)", "int street()", "int person(int,int)",
        "int set(int,int,int)", "int hears(int,int)", "int sheet(int,int,int,int)", "int alike()", "int state(int)", "int go(int)",
        "int talk(int)", "int behind(int)", "int rest()", "long fall(int)", "long falls()", "int swings()", "int otherwise(int,int)",
        "int onebyone()", "int level(int)", "int hops(int,int)", "int part(int)", "int ahead(int)", "int twins(int)", "int first()",
        "int last()", "int fates()", "int fewest(int,int)", "int cheapest(int,int)", "int daily(int,int)", "int plan(int,int)",
        "int guard(int)", "int holds()", "int shield(int)", "int bound()", "int rule(int)", "int rates(int,int)", "int picks(int)",
        "int market(int)", "int game(int)", "int against(int)", "int change(int)", "int single(int)", "int meet(int,int,int)",
        "boolean keep(int)", "boolean again(int)", "int count(int)", "long row(int)");
    private static final List<String> NOT_THERE = List.of("->", "::", "Exact(", "synchronized", "finally", "assert ", "instanceof",
        "catch", "System.out", "nanoTime", "Random", "HashMap", "static {", "double", "float", "Thread", "var ", "printStackTrace");
    private static int wrong;

    public static void main(String[] args) throws Exception {
        face();
        names();
        sizes();
        source(Files.readAllLines(Path.of("src/main/java/MoreThanHalf.java")));
        System.out.println("LanguageTest: " + wrong + " wrong");
        if (wrong > 0) {
            System.exit(1);
        }
    }

    private static void say(boolean right, String what) {
        if (!right) {
            wrong++;
            System.out.println("LanguageTest: " + what);
        }
    }

    private static void face() {
        Set<String> seen = new TreeSet<>();
        for (Method method : MoreThanHalf.class.getDeclaredMethods()) {
            String text = method.getReturnType() + " " + method.getName()
                    + Arrays.toString(method.getParameterTypes()).replace("[", "(").replace("]", ")").replace(", ", ",");
            say(Modifier.isPublic(method.getModifiers()) || Modifier.isPrivate(method.getModifiers()), text + " is neither public nor private");
            if (Modifier.isPublic(method.getModifiers())) {
                seen.add(text);
            }
        }
        say(seen.equals(new TreeSet<>(FACE)), "the face is " + seen);
        for (Field field : MoreThanHalf.class.getDeclaredFields()) {
            boolean isNone = field.getName().equals("NONE");
            say(isNone == Modifier.isPublic(field.getModifiers()), "field " + field);
            say(isNone || Modifier.isPrivate(field.getModifiers()), "field " + field);
        }
        Constructor<?>[] constructors = MoreThanHalf.class.getDeclaredConstructors();
        say(constructors.length == 1 && constructors[0].getParameterCount() == 0, "constructors");
        say(Modifier.isFinal(MoreThanHalf.class.getModifiers()), "the class is final");
    }

    private static List<Class<?>> classes() {
        List<Class<?>> classes = new ArrayList<>(List.of(MoreThanHalf.class.getDeclaredClasses()));
        classes.add(MoreThanHalf.class);
        return classes;
    }

    private static void names() {
        Set<String> publicNames = new HashSet<>();
        for (String method : FACE) {
            publicNames.add(method.replaceAll("^\\w+ (\\w+).*", "$1"));
        }
        for (Class<?> one : classes()) {
            for (Method method : one.getDeclaredMethods()) {
                boolean isOfFace = one == MoreThanHalf.class && Modifier.isPublic(method.getModifiers());
                say(isOfFace || !publicNames.contains(method.getName()), one + " has a " + method.getName());
                say(method.getParameterCount() <= 7, method + " takes too much");
            }
        }
    }

    private static void sizes() {
        say(classes().size() <= 12, "there are " + classes().size() + " classes");
        for (Class<?> one : classes()) {
            int fields = 0;
            for (Field field : one.getDeclaredFields()) {
                boolean isStatic = Modifier.isStatic(field.getModifiers());
                say(!isStatic || Modifier.isFinal(field.getModifiers()), field + " is not final");
                fields += isStatic ? 0 : 1;
            }
            say(fields <= 20, one + " has " + fields + " fields");
            say(one == MoreThanHalf.class || Modifier.isStatic(one.getModifiers()), one + " is not static");
            say(one.getDeclaredClasses().length == 0 || one == MoreThanHalf.class, one + " has classes");
        }
    }

    private static void source(List<String> lines) {
        int start = -1;
        int comments = 0;
        Pattern head = Pattern.compile("^ {4,8}(public|private|static|[a-zA-Z\\[\\]]+) .*\\).*\\{$");
        for (int k = 0; k < lines.size(); k++) {
            String line = lines.get(k);
            for (char c : line.toCharArray()) {
                say(c < 128, "line " + (k + 1) + " has another sign than ASCII");
            }
            String code = line.trim().startsWith("//") || line.trim().startsWith("*") || line.trim().startsWith("/*") ? "" : line;
            comments += code.isEmpty() && !line.isBlank() ? 1 : 0;
            for (String word : NOT_THERE) {
                say(!code.contains(word), "line " + (k + 1) + " has " + word);
            }
            Matcher matcher = head.matcher(code);
            if (matcher.matches() && !code.contains(" class ")) {
                start = k;
            }
            if (start >= 0 && line.equals(lines.get(start).replaceAll("\\S.*", "}"))) {
                say(k - start <= 60, "the method at line " + (start + 1) + " is too long");
                start = -1;
            }
        }
        say(comments < lines.size() / 4, "more comments than code");
    }
}
