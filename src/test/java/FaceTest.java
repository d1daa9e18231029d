import java.lang.reflect.Constructor;
import java.lang.reflect.Field;
import java.lang.reflect.Method;
import java.lang.reflect.Modifier;
import java.nio.file.Files;
import java.nio.file.Path;
import java.util.HashSet;
import java.util.List;
import java.util.Set;
import java.util.TreeSet;
import java.util.regex.Matcher;
import java.util.regex.Pattern;

/** The public face, and those rules of LANGUAGE.md that can be seen from the class or its text. */
final class FaceTest {
    private static final Checks CHECKS = new Checks();
    private static final String FACE = "star/2 of/2 change/3 crew/3 crewOf/2 set/2 apart/2 go/1 now/1 mends/2 ahead/2 "
        + "lasts/1 shine/1 dark/1 kindFor/1 dustFor/2 uses/1 round/2 best/1 bestWorth/1 from/2 share/3 longer/3 sign/1 "
        + "signOf/1 may/1 tells/1 told/0 steers/1 sees/1 which/1 kinds/2 drops/1 odds/2 seed/1 feed/2 wipe/0 text/0 "
        + "hold/2 as/2 sheet/3 write/3 copy/5 load/1 judge/1 image/0 undo/0 tear/0 count/1 status/1";

    public static void main(String[] args) throws Exception {
        face();
        members();
        words(Files.readString(Path.of(System.getProperty("starcrew.source", "src/main/java/StarCrew.java"))));
        CHECKS.end();
    }

    private static void face() {
        CHECKS.holds("the class is public and final",
            Modifier.isPublic(StarCrew.class.getModifiers()) && Modifier.isFinal(StarCrew.class.getModifiers()));
        Constructor<?>[] made = StarCrew.class.getDeclaredConstructors();
        CHECKS.holds("one public constructor without parameters",
            made.length == 1 && Modifier.isPublic(made[0].getModifiers()) && made[0].getParameterCount() == 0);
        Set<String> found = new TreeSet<>();
        for (Method m : StarCrew.class.getDeclaredMethods()) {
            if (Modifier.isPublic(m.getModifiers())) {
                found.add(m.getName() + "/" + m.getParameterCount());
                CHECKS.holds(m + " answers as told",
                    m.getReturnType() == (m.getName().equals("odds") ? long.class : int.class));
                CHECKS.holds(m + " is no static one", !Modifier.isStatic(m.getModifiers()));
                for (Class<?> p : m.getParameterTypes()) {
                    CHECKS.holds(m + " takes ints", p == int.class);
                }
            }
        }
        CHECKS.holds("the methods of the face and no other: " + found, found.equals(new TreeSet<>(List.of(FACE.split(" ")))));
    }

    private static void members() {
        Set<String> names = new HashSet<>();
        for (String act : FACE.split(" ")) {
            names.add(act.substring(0, act.indexOf('/')));
        }
        for (Method m : StarCrew.class.getDeclaredMethods()) {
            CHECKS.holds(m + " is public or private", Modifier.isPublic(m.getModifiers()) || Modifier.isPrivate(m.getModifiers()));
            CHECKS.holds(m + " bears a name of its own", Modifier.isPublic(m.getModifiers()) || !names.contains(m.getName()));
        }
        CHECKS.holds("some twelve classes at most", StarCrew.class.getDeclaredClasses().length < 12);
        fields(StarCrew.class);
        for (Class<?> inside : StarCrew.class.getDeclaredClasses()) {
            CHECKS.holds(inside + " is static", Modifier.isStatic(inside.getModifiers()));
            CHECKS.holds(inside + " isn't public", !Modifier.isPublic(inside.getModifiers()));
            fields(inside);
            for (Method m : inside.getDeclaredMethods()) {
                CHECKS.holds(m + " bears a name of its own", !names.contains(m.getName()));
                CHECKS.holds(m + " takes seven at most", m.getParameterCount() <= 7);
            }
        }
    }

    private static void fields(Class<?> of) {
        int own = 0;
        for (Field f : of.getDeclaredFields()) {
            if (Modifier.isStatic(f.getModifiers())) {
                CHECKS.holds(f + " is final", Modifier.isFinal(f.getModifiers()));
            } else {
                own++;
                CHECKS.holds(f + " of the face's class is private",
                    of != StarCrew.class || Modifier.isPrivate(f.getModifiers()));
            }
        }
        CHECKS.holds(of + " has some twenty fields at most", own <= 20);
    }

    private static void words(String source) {
        String code = source.replaceAll("(?s)/\\*.*?\\*/", " ").replaceAll("//[^\n]*", " ")
            .replaceAll("\"[^\"\n]*\"", "\"\"");
        String[] banned = {"throw", "throws", "try", "catch", "finally", "synchronized", "assert", "package", "System\\.out",
            "Math\\.\\w+Exact", "Math\\.random", "hashCode", "toString", "native", "volatile", "transient", "var", "->", "::",
            "static \\{", "Object", "Thread", "double", "float"};
        for (String word : banned) {
            boolean isWord = Character.isLetter(word.charAt(0));
            Matcher m = Pattern.compile(isWord ? "\\b" + word + "(?!\\w)" : word).matcher(code);
            CHECKS.holds("no " + word, !m.find());
        }
        Matcher imports = Pattern.compile("import ([^;]+);").matcher(code);
        while (imports.find()) {
            CHECKS.holds("import of " + imports.group(1), imports.group(1).equals("java.util.Arrays"));
        }
        Matcher bodies = Pattern.compile("(?m)^( {4}| {8})[^ \n][^\n;=]*\\) \\{\n((?:\\1 +[^\n]*\n|\n)*)\\1\\}").matcher(source);
        int methods = 0;
        while (bodies.find()) {
            methods++;
            CHECKS.holds("a body of some sixty lines at most", bodies.group(2).split("\n").length <= 60);
        }
        CHECKS.holds("bodies were seen: " + methods, methods > 80);
        CHECKS.holds("signs of the source are plain", source.chars().allMatch(c -> c < 128));
    }
}
