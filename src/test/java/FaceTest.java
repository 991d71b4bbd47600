import java.io.IOException;
import java.lang.reflect.Constructor;
import java.lang.reflect.Field;
import java.lang.reflect.Method;
import java.lang.reflect.Modifier;
import java.nio.file.Files;
import java.nio.file.Path;
import java.util.List;
import java.util.NoSuchElementException;
import java.util.TreeSet;
import java.util.regex.Matcher;
import java.util.regex.Pattern;

/** The document's face and no other, and those rules of LANGUAGE.md that a look at the source can tell. */
public final class FaceTest {
    private static final Checks CHECKS = new Checks();
    private static final String[] FACE = {
        "int sign(int)", "boolean end(int)", "int desk()", "int pupils()", "int opens(int,int,int)", "int closes(int)",
        "int seats(int,int)", "int puts(int,int)", "int takes(int)", "int swaps(int,int)", "int bars(int,int,boolean)",
        "int rooms(int)", "int chooses(int,int,boolean)", "int keeps(int,boolean)", "int section(int,int)",
        "int column(int)", "int subject(int)", "int pupil(int)", "int legal(int)", "int why(int,int)", "int fits()",
        "int ways(int)", "int crowd(int)", "int sets(int)", "int both(int,int)", "int clash()", "int gain(int,int)",
        "int best()", "int climbs(int)", "int exchange()", "int splits(int,int)", "int cures(int)", "int instead(int)",
        "int spare()", "int lays()", "int seated(boolean)", "int sits(int)", "int lacking()", "int wants(int)",
        "int count(int)", "long row(int)",
    };

    private FaceTest() {
    }

    public static void main(String[] args) throws IOException {
        face();
        names();
        source(Files.readAllLines(Path.of("src", "main", "java", "OptionLattice.java")));
        CHECKS.close("FaceTest");
    }

    private static String told(Method m) {
        StringBuilder t = new StringBuilder(m.getReturnType().getName() + " " + m.getName() + "(");
        for (int i = 0; i < m.getParameterCount(); i++) {
            t.append(i == 0 ? "" : ",").append(m.getParameterTypes()[i].getName());
        }
        return t.append(')').toString();
    }

    private static void face() {
        TreeSet<String> due = new TreeSet<>(List.of(FACE));
        TreeSet<String> there = new TreeSet<>();
        for (Method m : OptionLattice.class.getDeclaredMethods()) {
            if (Modifier.isPublic(m.getModifiers())) {
                there.add(told(m));
            }
            CHECKS.due(m + " is public or private", m.getModifiers() & (Modifier.PUBLIC | Modifier.PRIVATE),
                Modifier.isPublic(m.getModifiers()) ? Modifier.PUBLIC : Modifier.PRIVATE);
        }
        CHECKS.due("face " + there + ", due " + due, there.equals(due), true);
        for (Field f : OptionLattice.class.getDeclaredFields()) {
            CHECKS.due(f + " is private", Modifier.isPrivate(f.getModifiers()), !f.getName().equals("NONE"));
            boolean open = f.getModifiers() == (Modifier.PUBLIC | Modifier.STATIC | Modifier.FINAL) && f.getType() == int.class;
            CHECKS.due(f + " is a constant of the face", open, f.getName().equals("NONE"));
        }
        for (Method m : OptionLattice.class.getDeclaredMethods()) {
            boolean says = List.of(m.getExceptionTypes()).equals(List.of(NoSuchElementException.class));
            CHECKS.due(m + " says what it throws", says, m.getName().equals("row"));
        }
        CHECKS.due("NONE", OptionLattice.NONE, -1);
        Constructor<?>[] made = OptionLattice.class.getDeclaredConstructors();
        CHECKS.due("constructors", made.length, 1);
        CHECKS.due("constructor is public", Modifier.isPublic(made[0].getModifiers()), true);
        CHECKS.due("class", OptionLattice.class.getModifiers(), Modifier.PUBLIC | Modifier.FINAL);
    }

    private static void names() {
        TreeSet<String> publicNames = new TreeSet<>();
        for (String one : FACE) {
            publicNames.add(one.substring(one.indexOf(' ') + 1, one.indexOf('(')));
        }
        for (Class<?> inside : OptionLattice.class.getDeclaredClasses()) {
            CHECKS.due(inside + " is static", Modifier.isStatic(inside.getModifiers()), true);
            for (Method m : inside.getDeclaredMethods()) {
                CHECKS.due(m + " bears a public name", publicNames.contains(m.getName()), false);
            }
        }
        for (Method m : OptionLattice.class.getDeclaredMethods()) {
            boolean bears = Modifier.isPrivate(m.getModifiers()) && publicNames.contains(m.getName());
            CHECKS.due(m + " bears a public name", bears, false);
        }
    }

    private static void source(List<String> lines) {
        Pattern outside = Pattern.compile("\\b(catch|try|finally|synchronized|assert|var|Exact|package|float|double)\\b|->|::|@");
        Pattern field = Pattern.compile("^ +private (static )?final .*=.*|^ +throw new NoSuchElementException\\(\\);$");
        int imports = 0;
        int methodStart = 0;
        for (int i = 0; i < lines.size(); i++) {
            String line = lines.get(i);
            String code = line.replaceAll("//.*|'.'", "").replaceAll("^ */?\\*.*", "");
            Matcher m = outside.matcher(code);
            CHECKS.due("line " + (i + 1) + " is in the language: " + line, m.find(), false);
            imports += code.startsWith("import ") ? 1 : 0;
            if (code.contains("new ")) {
                CHECKS.due("line " + (i + 1) + " makes an object only in a field: " + line, field.matcher(code).matches(), true);
            }
            if (code.matches(" +[a-zA-Z].*\\) (throws \\w+ )?\\{") && code.matches(" {4,8}[a-z].*") && !code.contains(" if ")) {
                methodStart = i;
            }
            if (code.matches(" {4}( {4})?\\}")) {
                CHECKS.due("line " + (i + 1) + " ends a short method", i - methodStart < 60 || code.startsWith("    }"), true);
            }
        }
        CHECKS.due("imports", imports, 1);
    }
}
