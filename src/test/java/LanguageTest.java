import java.io.IOException;
import java.lang.reflect.Constructor;
import java.lang.reflect.Field;
import java.lang.reflect.Method;
import java.lang.reflect.Modifier;
import java.nio.file.Files;
import java.nio.file.Path;
import java.util.ArrayList;
import java.util.Arrays;
import java.util.List;
import java.util.Set;
import java.util.TreeSet;
import java.util.regex.Matcher;
import java.util.regex.Pattern;

/** The document's face, and the rules of LANGUAGE.md that can be seen from the source and the classes. */
final class LanguageTest {
    private static int wrong = 0;

    private static final String FACE = "int feed(int,int,int,int,int)|int back(int)|int read()|int place()|int house(int,int)|"
        + "boolean give(int,int)|int holder(int)|int months(int)|int tide(int)|int wet(int)|int reached(int)|int hours(int)|"
        + "int meets(int)|int cut(int,boolean,int)|int worst(boolean,int)|int law(int)|int wood(int)|int jack(int,int)|"
        + "int work(int,int,int)|int forget()|int judge()|int done()|boolean undo()|int nights(int)|int looks(int,int)|"
        + "int light(int)|int sway(int,int)|int chain(int,int,int)|int dread(int)|int year(int)|int clear()|"
        + "int posts(int,int,int,int,int)|int postAt(int,int,int,int,int,int)|int vote(int,int,int)|int mark(int,int,int)|"
        + "int annul(int)|int votes(int,int,int)|int winner(int,int)|int ends(int,int,int,int)|int years(int,int)|"
        + "boolean hold(int)|boolean restore(int)|int count(int)";

    private LanguageTest() {
    }

    private static void rule(boolean kept, String what) {
        if (!kept) {
            wrong++;
            System.out.println(what);
        }
    }

    public static void main(String[] args) throws IOException {
        face();
        classes();
        source();
        System.out.println(wrong == 0 ? "the rules are kept" : wrong + " rules are broken");
        if (wrong != 0) {
            System.exit(1);
        }
    }

    private static void face() {
        Set<String> due = new TreeSet<>(Arrays.asList(FACE.split("\\|")));
        Set<String> names = new TreeSet<>();
        Set<String> found = new TreeSet<>();
        for (Method method : StiltTown.class.getDeclaredMethods()) {
            if (Modifier.isPublic(method.getModifiers())) {
                List<String> types = new ArrayList<>();
                for (Class<?> type : method.getParameterTypes()) {
                    types.add(type.getName());
                }
                found.add(method.getReturnType() + " " + method.getName() + "(" + String.join(",", types) + ")");
                names.add(method.getName());
            }
        }
        rule(found.equals(due), "the public methods are " + found);
        for (Method method : StiltTown.class.getDeclaredMethods()) {
            boolean hidden = Modifier.isPrivate(method.getModifiers());
            rule(hidden != Modifier.isPublic(method.getModifiers()), method + " is neither public nor private");
            rule(!hidden || !names.contains(method.getName()), method + " bears the name of a public one");
        }
        for (Field field : StiltTown.class.getDeclaredFields()) {
            boolean none = field.getName().equals("NONE");
            rule(Modifier.isPublic(field.getModifiers()) == none, field + " is public or not");
            rule(none || Modifier.isPrivate(field.getModifiers()), field + " is not private");
        }
        int modifiers = StiltTown.class.getModifiers();
        rule(Modifier.isPublic(modifiers) && Modifier.isFinal(modifiers), "the class is public and final");
        Constructor<?>[] made = StiltTown.class.getDeclaredConstructors();
        rule(made.length == 1 && Modifier.isPublic(made[0].getModifiers()) && made[0].getParameterCount() == 0, "one constructor");
        rule(StiltTown.NONE == -1, "NONE is -1");
    }

    private static void classes() {
        List<Class<?>> all = new ArrayList<>();
        all.add(StiltTown.class);
        all.addAll(Arrays.asList(StiltTown.class.getDeclaredClasses()));
        rule(all.size() <= 12, all.size() + " classes");
        for (Class<?> one : all) {
            int fields = 0;
            for (Field field : one.getDeclaredFields()) {
                if (Modifier.isStatic(field.getModifiers())) {
                    rule(Modifier.isFinal(field.getModifiers()), field + " is static and not final");
                } else {
                    fields++;
                }
            }
            rule(fields <= 20, one + " has " + fields + " fields");
            rule(one == StiltTown.class || Modifier.isStatic(one.getModifiers()), one + " is static");
            for (Method method : one.getDeclaredMethods()) {
                rule(method.getParameterCount() <= 7, method + " takes too many");
            }
        }
    }

    private static void source() throws IOException {
        String text = Files.readString(Path.of("src/main/java/StiltTown.java"));
        rule(text.chars().allMatch(sign -> sign < 128), "signs are 1 to 127");
        String code = text.replaceAll("(?s)/\\*.*?\\*/", "").replaceAll("//[^\n]*", "").replaceAll("\"[^\"\n]*\"|'[^'\n]*'", "0");
        String[] never = {"throw", "throws", "try", "catch", "finally", "synchronized", "assert", "import", "package", "protected",
            "volatile", "transient", "native", "double", "float", "Object", "yield", "var", "System\\.(?!arraycopy)\\w+", "Math\\.\\w+Exact"};
        for (String word : never) {
            Matcher matcher = Pattern.compile("\\b" + word + "\\b").matcher(code);
            rule(!matcher.find(), "the source has " + word);
        }
        rule(!code.contains("->") && !code.contains("::"), "no lambda, no method reference");
        int lines = 0;
        for (String line : code.split("\n")) {
            lines = line.matches("\\s*") ? 0 : lines + 1;
            rule(lines <= 60 || line.contains("static final"), "a run of lines without a gap: " + line);
        }
    }
}
