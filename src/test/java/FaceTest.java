import java.io.IOException;
import java.lang.reflect.Constructor;
import java.lang.reflect.Field;
import java.lang.reflect.Method;
import java.lang.reflect.Modifier;
import java.nio.file.Files;
import java.nio.file.Path;
import java.util.Set;
import java.util.TreeSet;
import java.util.regex.Matcher;
import java.util.regex.Pattern;

/** The public face, and those rules of LANGUAGE.md that can be seen without reading. */
public final class FaceTest {
    private static final String[] FACE = {"turn(int,int)boolean", "feed(int,int,int,int,int)int", "law(int)int",
        "terrace(int)int", "rota(int)int", "days(int)int", "tried(int,int)int", "sees(int,int)int",
        "houseIs(int,int)int", "rotaIs(int)int", "next(int,int,int)int", "light(int,int)int", "seers(int)int",
        "ifSwapped(int,int)int", "spread()int", "bestBreath(int,int)int", "clearest(int)int", "shortest(int,int)int",
        "whoHad(int,int)int", "readers(int,int)int", "second(int)int", "crack(int,int)int", "halves(int)int",
        "swaps(int,int)int", "sale(int,int)int", "rotas(int)long", "panes(int,int)int", "keepIt(int,int)int",
        "seed(int)boolean", "keep()int", "undo()boolean", "check(int)int", "count(int)int"};

    public static void main(String[] args) throws IOException {
        face();
        privateNames();
        source(Files.readString(Path.of(System.getProperty("source", "src/main/java/SharedWindow.java"))));
        Due.end("FaceTest");
    }

    private static void face() {
        Set<String> seen = new TreeSet<>();
        for (Method method : SharedWindow.class.getDeclaredMethods()) {
            if (Modifier.isPublic(method.getModifiers())) {
                StringBuilder text = new StringBuilder(method.getName()).append('(');
                for (Class<?> type : method.getParameterTypes()) {
                    text.append(text.charAt(text.length() - 1) == '(' ? "" : ",").append(type.getName());
                }
                seen.add(text.append(')').append(method.getReturnType().getName()).toString());
                Due.no("static " + method, Modifier.isStatic(method.getModifiers()));
            } else {
                Due.yes("private " + method, Modifier.isPrivate(method.getModifiers()));
            }
        }
        Due.same("the face", seen.toString(), new TreeSet<>(Set.of(FACE)).toString());
        Due.yes("final", Modifier.isFinal(SharedWindow.class.getModifiers()));
        Due.is("constructors", SharedWindow.class.getDeclaredConstructors().length, 1);
        for (Constructor<?> constructor : SharedWindow.class.getDeclaredConstructors()) {
            Due.is("its arguments", constructor.getParameterCount(), 0);
            Due.yes("public", Modifier.isPublic(constructor.getModifiers()));
        }
        for (Field field : SharedWindow.class.getDeclaredFields()) {
            boolean constant = field.getName().equals("NONE");
            Due.yes("field " + field, constant || Modifier.isPrivate(field.getModifiers()));
        }
    }

    private static void privateNames() {
        Set<String> names = new TreeSet<>();
        for (String each : FACE) {
            names.add(each.substring(0, each.indexOf('(')));
        }
        int classes = 1;
        for (Class<?> inside : SharedWindow.class.getDeclaredClasses()) {
            classes++;
            Due.yes("static " + inside, Modifier.isStatic(inside.getModifiers()));
            int fields = 0;
            for (Field field : inside.getDeclaredFields()) {
                boolean fixed = Modifier.isStatic(field.getModifiers());
                fields += fixed ? 0 : 1;
                Due.yes("final " + field, !fixed || Modifier.isFinal(field.getModifiers()));
            }
            Due.yes("fields of " + inside, fields <= 20);
            for (Method method : inside.getDeclaredMethods()) {
                Due.no("the name of " + method, names.contains(method.getName()));
                Due.yes("parameters of " + method, method.getParameterCount() <= 7);
            }
        }
        Due.yes("at most twelve classes", classes <= 12);
    }

    private static void source(String text) {
        for (int i = 0; i < text.length(); i++) {
            if (text.charAt(i) > 126) {
                Due.is("sign at " + i, text.charAt(i), ' ');
            }
        }
        String code = text.replaceAll("(?s)/\\*.*?\\*/", "").replaceAll("//[^\n]*", "").replaceAll("\"[^\"\n]*\"", "\"\"");
        String[] banned = {"\\bthrow\\b", "\\bthrows\\b", "\\btry\\b", "\\bcatch\\b", "\\bsynchronized\\b", "\\bassert\\b",
            "->", "::", "\\bpackage\\b", "\\bimport\\b", "Exact\\b", "\\bNaN\\b", "\\bvar\\b", "\\bprotected\\b",
            "\\bSystem\\.(?!arraycopy)", "\\bfloat\\b", "\\bdouble\\b", "\\bstatic \\{"};
        for (String each : banned) {
            Matcher found = Pattern.compile(each).matcher(code);
            Due.no("the source has " + each, found.find());
        }
        methods(code);
    }

    private static void methods(String code) {
        String[] lines = code.split("\n");
        int start = 0;
        for (int i = 0; i < lines.length; i++) {
            if (lines[i].matches(" +(public|private) .*\\) \\{")) {
                start = i;
            }
            if (lines[i].matches("    (    )?\\}")) {
                Due.yes("a short method at line " + start, i - start <= 60 || lines[i].equals("    }"));
            }
        }
    }
}
