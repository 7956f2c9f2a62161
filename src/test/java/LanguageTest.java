import java.io.IOException;
import java.lang.reflect.Constructor;
import java.lang.reflect.Field;
import java.lang.reflect.Method;
import java.lang.reflect.Modifier;
import java.nio.file.Files;
import java.nio.file.Path;
import java.util.ArrayList;
import java.util.Arrays;
import java.util.List;
import java.util.TreeSet;

/** The face of the document, and those rules of LANGUAGE.md that a test can see. */
public final class LanguageTest {
    private static final String[] FACE = {
        "int write(int,long)", "int wipe()", "int fault()", "int house()", "int room(int,int)",
        "int person(int,int)", "int quarrel(int,int)", "int knot(int,int)", "int dinner(int,int)",
        "int moth(int)", "int mend(int)", "int undo()", "int price(int)", "int fringe(int,int)",
        "int trouble(int)", "int invite(int,int)", "int inviteAt(int,int,int)", "int see(int,int)",
        "int unsee()", "int who(int)", "long luck(int,int,boolean)", "long seed(long)",
        "int season(int,int)", "int keep(int)", "int again(int)", "int count(int)"};
    private static final String[] NOT_ALLOWED = {
        "throw", "throws", "try", "catch", "finally", "synchronized", "assert", "import", "package",
        "Object", "System.out", "System.exit", "hashCode", "toString", "float", "double", "yield", "record",
        "protected", "volatile", "transient", "native", "instanceof", "Exact"};

    public static void main(String[] args) throws IOException {
        face();
        constants();
        for (Class<?> c : AbsentCarpets.class.getDeclaredClasses()) {
            inside(c);
        }
        fields(AbsentCarpets.class);
        Check.holds("at most twelve classes", AbsentCarpets.class.getDeclaredClasses().length < 12);
        source(Files.readString(Path.of(args.length > 0 ? args[0] : "src/main/java/AbsentCarpets.java")));
        Check.end();
    }

    private static void face() {
        Class<?> c = AbsentCarpets.class;
        Check.holds("public and final", Modifier.isPublic(c.getModifiers()) && Modifier.isFinal(c.getModifiers()));
        TreeSet<String> told = new TreeSet<>(Arrays.asList(FACE));
        TreeSet<String> names = new TreeSet<>();
        TreeSet<String> seen = new TreeSet<>();
        for (Method m : c.getDeclaredMethods()) {
            if (Modifier.isPublic(m.getModifiers())) {
                String full = m.toString();
                seen.add(m.getReturnType() + " " + full.substring(full.indexOf(m.getName() + "(")));
                names.add(m.getName());
                Check.holds(m + " is not static", !Modifier.isStatic(m.getModifiers()));
            }
        }
        Check.holds("methods are " + seen, seen.equals(told));
        for (Method m : c.getDeclaredMethods()) {
            if (!Modifier.isPublic(m.getModifiers()) && !m.isSynthetic()) {
                Check.holds(m + " is private", Modifier.isPrivate(m.getModifiers()));
                Check.holds(m + " has a name of its own", !names.contains(m.getName()));
                Check.holds(m + " takes seven at most", m.getParameterCount() <= 7);
            }
        }
        for (Constructor<?> k : c.getDeclaredConstructors()) {
            Check.holds("one constructor without a parameter",
                    Modifier.isPublic(k.getModifiers()) && k.getParameterCount() == 0);
        }
    }

    private static void constants() {
        Check.due("UNKNOWN", AbsentCarpets.UNKNOWN, -1);
        Check.due("OUTSIDE", AbsentCarpets.OUTSIDE, -2);
        Check.due("STATE", AbsentCarpets.STATE, -3);
        Check.due("FULL", AbsentCarpets.FULL, -4);
        Check.due("NONE", AbsentCarpets.NONE, -9);
        List<String> open = new ArrayList<>();
        for (Field f : AbsentCarpets.class.getDeclaredFields()) {
            if (!Modifier.isPrivate(f.getModifiers())) {
                open.add(f.getName());
                Check.holds(f + " is a constant", Modifier.toString(f.getModifiers()).equals("public static final"));
            }
        }
        Check.holds("no other fields are open than " + open,
                new TreeSet<>(open).equals(new TreeSet<>(List.of("UNKNOWN", "OUTSIDE", "STATE", "FULL", "NONE"))));
    }

    private static void inside(Class<?> c) {
        Check.holds(c + " is static", Modifier.isStatic(c.getModifiers()));
        Check.holds(c + " is not public", !Modifier.isPublic(c.getModifiers()));
        fields(c);
    }

    private static void fields(Class<?> c) {
        int own = 0;
        for (Field f : c.getDeclaredFields()) {
            if (Modifier.isStatic(f.getModifiers())) {
                Check.holds(f + " is final", Modifier.isFinal(f.getModifiers()) && f.getType() == int.class);
            } else {
                own++;
            }
        }
        Check.holds(c + " has some twenty fields at most", own <= 20);
    }

    private static void source(String text) {
        String code = text.replaceAll("(?s)/\\*.*?\\*/", "").replaceAll("//[^\n]*", "").replaceAll("'.'", "' '");
        for (String word : NOT_ALLOWED) {
            Check.holds("no " + word, !code.matches("(?s).*\\b" + word.replace(".", "\\.") + "\\b.*"));
        }
        for (String sign : new String[] {"->", "::", "\"", "@", "static {"}) {
            Check.holds("no " + sign, !code.contains(sign));
        }
        int start = 0;
        String[] lines = code.split("\n");
        for (int i = 0; i < lines.length; i++) {
            // all that a run makes is made with the object: by fields alone
            if (lines[i].matches(".*\\bnew\\b.*")) {
                Check.holds("made by a field: " + lines[i].trim(), lines[i].matches(" +private .*= new .*;")
                        || lines[i].matches(" +final int\\[\\] .*= new int.*;"));
            }
            if (lines[i].matches(" +[a-zA-Z].*\\) \\{") && !lines[i].matches(" +(if|for|while|switch|else).*")) {
                start = i;
            }
            Check.holds("short methods: line " + (i + 1), !lines[i].matches(" {4,8}\\}") || i - start < 60);
        }
        Check.holds("signs are 1 to 127", text.chars().allMatch(sign -> sign > 0 && sign < 128));
    }
}
