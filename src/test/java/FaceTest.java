import java.lang.reflect.Constructor;
import java.lang.reflect.Field;
import java.lang.reflect.Method;
import java.lang.reflect.Modifier;
import java.nio.file.Files;
import java.nio.file.Path;
import java.util.Arrays;
import java.util.List;
import java.util.Set;
import java.util.TreeSet;
import java.util.regex.Matcher;
import java.util.regex.Pattern;

/** The document's face and no more of it, and the rules of LANGUAGE.md that can be seen by a look. */
public final class FaceTest {
    private static final List<String> FACE = List.of(
        "int again(int)", "int at(int)", "int begun(int)", "int best(int,int)", "int bestAt(int,int,int)",
        "int both(int,int)", "int count(int)", "int deaf()", "int fault()", "int first(int,int)",
        "int go(int)", "int hear(int)", "int heard(int,int)", "int home()", "int hush(int,int)",
        "int keep(int)", "int let(int,int)", "int mayBe(int)", "int note(int)", "int parted(boolean)",
        "int road(int,int,boolean)", "int round(int,int,int)", "int roundAt(int,int,int,int)",
        "int song(int,int)", "int spring()", "int street(int,int)", "int town()", "int wipe()",
        "int write(int,long)", "long fitting()", "long safe(int,int,int,int)", "long ways(int,int,int)");

    public static void main(String[] args) throws Exception {
        members();
        constants();
        nested();
        words();
        Check.end("FaceTest");
    }

    private static String told(Method m) {
        StringBuilder types = new StringBuilder();
        for (Class<?> type : m.getParameterTypes()) {
            types.append(types.length() == 0 ? "" : ",").append(type.getSimpleName());
        }
        return m.getReturnType().getSimpleName() + " " + m.getName() + "(" + types + ")";
    }

    private static void members() {
        Class<?> face = TuneToEachHouse.class;
        Check.isTrue("the class is public and final",
            Modifier.isPublic(face.getModifiers()) && Modifier.isFinal(face.getModifiers()));
        Set<String> open = new TreeSet<>();
        Set<String> hidden = new TreeSet<>();
        for (Method m : face.getDeclaredMethods()) {
            boolean isPrivate = Modifier.isPrivate(m.getModifiers());
            (isPrivate ? hidden : open).add(isPrivate ? m.getName() : told(m));
            Check.isTrue(m + " is public or private", isPrivate || Modifier.isPublic(m.getModifiers()));
        }
        Check.isTrue("the methods are " + open, open.equals(new TreeSet<>(FACE)));
        for (String method : FACE) {
            String name = method.substring(method.indexOf(' ') + 1, method.indexOf('('));
            Check.isTrue("no private method is named " + name, !hidden.contains(name));
        }
        Constructor<?>[] constructors = face.getDeclaredConstructors();
        Check.due("constructors", constructors.length, 1);
        Check.isTrue("the constructor is public", Modifier.isPublic(constructors[0].getModifiers()));
    }

    private static void constants() {
        Check.due("UNKNOWN", TuneToEachHouse.UNKNOWN, -1);
        Check.due("OUTSIDE", TuneToEachHouse.OUTSIDE, -2);
        Check.due("STATE", TuneToEachHouse.STATE, -3);
        Check.due("FULL", TuneToEachHouse.FULL, -4);
        Check.due("NONE", TuneToEachHouse.NONE, -9);
        List<String> names = List.of("UNKNOWN", "OUTSIDE", "STATE", "FULL", "NONE");
        for (Field f : TuneToEachHouse.class.getDeclaredFields()) {
            boolean isFace = names.contains(f.getName());
            Check.isTrue(f + " is as it should be", isFace == !Modifier.isPrivate(f.getModifiers()));
        }
    }

    private static void nested() {
        Class<?>[] classes = TuneToEachHouse.class.getDeclaredClasses();
        Check.isTrue("some twelve classes at most", classes.length < 12);
        for (Class<?> c : classes) {
            Check.isTrue(c + " is static", Modifier.isStatic(c.getModifiers()));
            Check.isTrue(c + " is not open", !Modifier.isPublic(c.getModifiers()) && !Modifier.isProtected(c.getModifiers()));
            int fields = 0;
            for (Field f : c.getDeclaredFields()) {
                boolean isStatic = Modifier.isStatic(f.getModifiers());
                fields += isStatic ? 0 : 1;
                Check.isTrue(f + " is final if static", !isStatic || Modifier.isFinal(f.getModifiers()));
            }
            Check.isTrue(c + " has some twenty fields at most", fields <= 20);
            for (Method m : c.getDeclaredMethods()) {
                boolean isFaceName = FACE.stream().anyMatch(f -> f.contains(" " + m.getName() + "("));
                Check.isTrue(m + " has a name of its own", !isFaceName);
                Check.isTrue(m + " takes seven at most", m.getParameterCount() <= 7);
            }
        }
    }

    private static void words() throws Exception {
        String source = Files.readString(Path.of("src/main/java/TuneToEachHouse.java"));
        String code = source.replaceAll("(?s)/\\*.*?\\*/", "").replaceAll("//[^\n]*", "");
        for (String word : List.of("throw", "throws", "try", "catch", "synchronized", "assert", "package",
            "toString", "equals", "hashCode", "Random", "Thread", "float", "double")) {
            Check.isTrue("no word " + word, !Pattern.compile("\\b" + word + "\\b").matcher(code).find());
        }
        Check.isTrue("no lambda and no method reference", !code.contains("->") && !code.contains("::"));
        Matcher imports = Pattern.compile("import ([^;]+);").matcher(code);
        while (imports.find()) {
            Check.due("import " + imports.group(1), imports.group(1).equals("java.util.Arrays") ? 1 : 0, 1);
        }
        Matcher system = Pattern.compile("(?:System|Arrays)\\.(\\w+)").matcher(code);
        while (system.find()) {
            Check.isTrue(system.group(), Arrays.asList("arraycopy", "fill").contains(system.group(1)));
        }
        Check.isTrue("plain signs alone", source.chars().allMatch(c -> c == '\n' || c >= 32 && c < 127));
    }
}
