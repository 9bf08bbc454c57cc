import java.io.IOException;
import java.lang.reflect.Constructor;
import java.lang.reflect.Field;
import java.lang.reflect.Method;
import java.lang.reflect.Modifier;
import java.nio.file.Files;
import java.nio.file.Path;
import java.util.TreeSet;
import java.util.regex.Matcher;
import java.util.regex.Pattern;

/** The rules of LANGUAGE.md that a look at the source and at the compiled classes can tell. */
public final class LanguageTest {
    private static final String SOURCE = "src/main/java/LyingBeacons.java";
    private static final String FACE = "write(int,long) wipe() fault() lay() hill(int,int) ship(int,int,int) burns(int,int)"
        + " seen(int) wood(int) alarm() falseBy(int) falseFor(int,int) trueBy(int,int) late(int,int) bears()"
        + " bestRule(int,int) added(int) log(int,int) logs(int) sign(int,int,int) near(int,int)"
        + " watch(int,int,int,int,int) cost(int,int) sends(int,int) unbelieved(int,int) keep() back() count(int)";
    private static int wrong = 0;

    private static void must(boolean holds, String rule) {
        if (!holds) {
            wrong++;
            System.out.println("not kept: " + rule);
        }
    }

    public static void main(String[] args) throws IOException {
        face();
        for (Class<?> inside : LyingBeacons.class.getDeclaredClasses()) {
            must(Modifier.isStatic(inside.getModifiers()), "rule 2: " + inside + " is static");
            members(inside);
        }
        members(LyingBeacons.class);
        must(LyingBeacons.class.getDeclaredClasses().length < 12, "rule 11: at most twelve classes");
        words(Files.readString(Path.of(SOURCE)));
        System.out.println(wrong == 0 ? "the rules are kept" : wrong + " rules are not kept");
        if (wrong != 0) {
            System.exit(1);
        }
    }

    private static void face() {
        TreeSet<String> want = new TreeSet<>();
        for (String one : FACE.split(" ")) {
            want.add("int " + one);
        }
        TreeSet<String> names = new TreeSet<>();
        TreeSet<String> hidden = new TreeSet<>();
        TreeSet<String> got = new TreeSet<>();
        for (Method m : LyingBeacons.class.getDeclaredMethods()) {
            if (Modifier.isPrivate(m.getModifiers())) {
                hidden.add(m.getName());
                continue;
            }
            StringBuilder sign = new StringBuilder(m.getReturnType() + " " + m.getName() + "(");
            for (int i = 0; i < m.getParameterCount(); i++) {
                sign.append(i == 0 ? "" : ",").append(m.getParameterTypes()[i]);
            }
            got.add(sign + ")");
            names.add(m.getName());
        }
        must(got.equals(want), "rule 1: the methods of the face, found " + got);
        for (Class<?> inside : LyingBeacons.class.getDeclaredClasses()) {
            for (Method m : inside.getDeclaredMethods()) {
                hidden.add(m.getName());
            }
        }
        hidden.retainAll(names);
        must(hidden.isEmpty(), "rule 1: other methods with a public one's name: " + hidden);
        Constructor<?>[] made = LyingBeacons.class.getDeclaredConstructors();
        must(made.length == 1 && Modifier.isPublic(made[0].getModifiers()), "rule 1: one public constructor");
        must(Modifier.isFinal(LyingBeacons.class.getModifiers()), "rule 1: a final class");
        TreeSet<String> constants = new TreeSet<>();
        for (Field f : LyingBeacons.class.getDeclaredFields()) {
            if (!Modifier.isPrivate(f.getModifiers())) {
                constants.add(f.getName());
            }
        }
        must(constants.toString().equals("[BAD, FULL, NO, NONE]"), "rule 1: the constants, found " + constants);
    }

    private static void members(Class<?> one) {
        int fields = 0;
        for (Field f : one.getDeclaredFields()) {
            boolean fixed = Modifier.isStatic(f.getModifiers());
            fields += fixed ? 0 : 1;
            must(!fixed || Modifier.isFinal(f.getModifiers()), "rule 5: " + f + " is final");
        }
        must(fields <= 20, "rule 11: twenty fields in " + one);
        for (Method m : one.getDeclaredMethods()) {
            must(m.getParameterCount() <= 7, "rule 11: seven parameters in " + m);
        }
    }

    private static void words(String source) {
        String bare = source.replaceAll("(?s)/\\*.*?\\*/", "").replaceAll("//[^\n]*", "");
        for (String word : "throw throws try catch synchronized assert import package while do".split(" ")) {
            must(!Pattern.compile("\\b" + word + "\\b").matcher(bare).find(), "rules 4, 6, 9: no " + word);
        }
        must(!bare.contains("->") && !bare.contains("::"), "rule 2: no lambda, no method reference");
        must(!bare.contains("Exact"), "rule 4: nothing that ends in Exact");
        Matcher made = Pattern.compile("\n([^\n]*)\\bnew\\b").matcher(bare);
        while (made.find()) {
            must(made.group(1).matches(" *(private )?final [\\w\\[\\]]+ \\w+ = "), "rule 12: made in a constructor alone: " + made.group(1));
        }
        int start = 0;
        String[] lines = source.split("\n");
        for (int i = 0; i < lines.length; i++) {
            if (lines[i].matches(" {4}( {4})?\\S.*\\) \\{")) {
                start = i;
            }
            if (lines[i].matches(" {4}( {4})?\\}")) {
                must(start == 0 || i - start <= 60, "rule 11: sixty lines, line " + (start + 1));
                start = 0;
            }
            must(lines[i].length() <= 120, "a line of over 120 signs, line " + (i + 1));
        }
    }
}
