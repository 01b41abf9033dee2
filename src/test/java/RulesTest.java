import java.io.IOException;
import java.lang.reflect.Constructor;
import java.lang.reflect.Field;
import java.lang.reflect.Method;
import java.lang.reflect.Modifier;
import java.nio.file.Files;
import java.nio.file.Path;
import java.util.Set;
import java.util.TreeSet;
import java.util.regex.Matcher;
import java.util.regex.Pattern;

/** The class's face, and what LANGUAGE.md forbids as far as a look at the source and the class can tell. */
final class RulesTest {
    private static final String SOURCE = "src/main/java/GrainInn.java";
    private static final String[] FACE = {
        "feed int,int,int,int,int", "end int", "text int,int", "fault int", "inn int,int", "deed int,int,int",
        "stop int,int", "state int,int,int,int", "guest int,int,int,int,int", "past int,int,int,int,int,int",
        "wish int,int,int", "seats int,int,int,int,int", "comes int,int,int,int,int,int", "cuts int,int,int,int,int",
        "heard int,int", "fits int,int,int,int", "gain int,int,int,int,int,int,int", "rest int,int,int,int,int,int",
        "whisper int,int,int,int,boolean", "council int,boolean", "drawn int,int,int,int", "met int,int,int,int,int",
        "ghosts int,int,int,int", "forgets int,int,int,int,int", "spy int,int,int,int,int", "weddings int,int,int,int",
        "count int", "image int", "again int"};

    public static void main(String[] args) throws IOException {
        face();
        insides(GrainInn.class);
        for (Class<?> inside : GrainInn.class.getDeclaredClasses()) {
            Check.due(inside + " is static", Modifier.isStatic(inside.getModifiers()), true);
            Check.due(inside + " is not public", Modifier.isPublic(inside.getModifiers()), false);
            insides(inside);
        }
        Check.due("classes", GrainInn.class.getDeclaredClasses().length < 12, true);
        source(Files.readString(Path.of(SOURCE)));
        Check.finish();
    }

    private static void face() {
        Set<String> want = new TreeSet<>(Set.of(FACE));
        Set<String> names = new TreeSet<>();
        for (Method method : GrainInn.class.getDeclaredMethods()) {
            StringBuilder line = new StringBuilder(method.getName()).append(' ');
            for (Class<?> type : method.getParameterTypes()) {
                line.append(line.toString().endsWith(" ") ? "" : ",").append(type.getName());
            }
            if (Modifier.isPublic(method.getModifiers())) {
                Check.due("the face has " + line, want.remove(line.toString()), true);
                names.add(method.getName());
            } else {
                Check.due(line + " is private", Modifier.isPrivate(method.getModifiers()) || method.isSynthetic(), true);
            }
        }
        Check.due("the face lacks " + want, want.size(), 0);
        for (Method method : GrainInn.class.getDeclaredMethods()) {
            boolean hides = !Modifier.isPublic(method.getModifiers()) && names.contains(method.getName());
            Check.due(method.getName() + " bears a public name", hides, false);
        }
        for (Class<?> inside : GrainInn.class.getDeclaredClasses()) {
            for (Method method : inside.getDeclaredMethods()) {
                Check.due(inside + "." + method.getName() + " bears a public name", names.contains(method.getName()), false);
            }
        }
        Constructor<?>[] makers = GrainInn.class.getDeclaredConstructors();
        Check.due("constructors", makers.length, 1);
        Check.due("public constructor", Modifier.isPublic(makers[0].getModifiers()), true);
        Check.due("final class", Modifier.isFinal(GrainInn.class.getModifiers()), true);
    }

    private static void insides(Class<?> type) {
        int fields = 0;
        for (Field field : type.getDeclaredFields()) {
            int marks = field.getModifiers();
            if (Modifier.isStatic(marks)) {
                Check.due(field + " is final", Modifier.isFinal(marks), true);
                Check.due(field + " is an int", field.getType() == int.class, true);
            } else {
                fields++;
            }
            boolean mayBePublic = type == GrainInn.class && field.getName().equals("NONE");
            Check.due(field + " is private", Modifier.isPrivate(marks), !mayBePublic);
        }
        Check.due("fields of " + type, fields <= 20, true);
        for (Method method : type.getDeclaredMethods()) {
            Check.due("parameters of " + method, method.getParameterCount() <= 7, true);
        }
    }

    private static void source(String whole) {
        String text = whole.replaceAll("(?s)/\\*.*?\\*/", " ").replaceAll("//[^\n]*", " ")
            .replaceAll("\"[^\"\n]*\"", "\"\"").replaceAll("'[^'\n]*'", "''");
        String[] forbidden = {"\\bthrow\\b", "\\bthrows\\b", "\\btry\\b", "\\bcatch\\b", "\\bsynchronized\\b", "\\bassert\\b",
            "->", "::", "\\bpackage\\b", "\\bequals\\b", "\\bhashCode\\b", "\\btoString\\b", "\\bSystem\\.(?!arraycopy\\b)",
            "Exact\\b", "\\bRandom\\b", "\\bThread\\b", "\\bfloat\\b", "\\bdouble\\b", "static\\s*\\{", "@", "\"\"\\s*\\+", "\\+\\s*\"\"",
            "\\bprotected\\b", "\\bvar\\b", "\\bcopyOf\\b"};
        for (String word : forbidden) {
            Matcher found = Pattern.compile(word).matcher(text);
            Check.due("'" + word + "' stands in the source", found.find(), false);
        }
        Matcher imports = Pattern.compile("(?m)^import (.*);$").matcher(text);
        while (imports.find()) {
            Check.due("import " + imports.group(1), imports.group(1).equals("java.util.Arrays"), true);
        }
        methodsAreShort(whole.split("\n", -1));
    }

    private static void methodsAreShort(String[] lines) {
        for (int k = 0; k < lines.length; k++) {
            if (lines[k].matches(" {4}(    )?[a-zA-Z].*\\) \\{")) {
                String closing = lines[k].replaceAll("\\S.*", "") + "}";
                int last = k;
                while (last < lines.length - 1 && !lines[last].equals(closing)) {
                    last++;
                }
                Check.due("lines of " + lines[k].trim(), last - k <= 60, true);
            }
        }
    }
}
