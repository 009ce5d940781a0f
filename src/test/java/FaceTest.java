import java.lang.reflect.Constructor;
import java.lang.reflect.Field;
import java.lang.reflect.Method;
import java.lang.reflect.Modifier;
import java.nio.file.Files;
import java.nio.file.Path;
import java.util.Set;
import java.util.TreeSet;
import java.util.regex.Matcher;
import java.util.regex.Pattern;

/** The face as the document tells it, and those rules of the language that can be seen in the text. */
public final class FaceTest {
    private static final Check CHECK = new Check("FaceTest");
    private static final String METHODS = "int letter(int) int blank() int fault() int suburb() int person(int,int) "
            + "int as(int,int) int road(int,int) int corner(int,int) int far(int,int) int go(int) int stand(int) "
            + "int call(int,int,int,int) int round(int,int) int odds(int,int,int) int see(int,boolean) int forget() "
            + "int places() int ask() int evenings(int,int,int) int image() int restore() int count(int) long digest()";
    private static final String[] BANNED = {"throw", "try", "catch", "finally", "synchronized", "assert",
        "System\\.(?!arraycopy)", "Random", "Thread", "package", "protected", "equals", "hashCode", "toString",
        "\\w+Exact", "import (?!java\\.util\\.Arrays;)"};

    public static void main(String[] args) throws Exception {
        members();
        constants();
        words();
        sizes(ChimeVan.class);
        holds("twelve classes at most", ChimeVan.class.getDeclaredClasses().length < 12);
        for (Class<?> inside : ChimeVan.class.getDeclaredClasses()) {
            sizes(inside);
        }
        CHECK.end();
    }

    private static void members() {
        Set<String> found = new TreeSet<>();
        Set<String> names = new TreeSet<>();
        for (Method method : ChimeVan.class.getDeclaredMethods()) {
            if (Modifier.isPublic(method.getModifiers())) {
                found.add(text(method));
                names.add(method.getName());
            } else {
                holds(method + " is private", Modifier.isPrivate(method.getModifiers()) || method.isSynthetic());
            }
        }
        Set<String> due = new TreeSet<>();
        Matcher matcher = Pattern.compile("(int|long) \\w+\\([a-z,]*\\)").matcher(METHODS);
        while (matcher.find()) {
            due.add(matcher.group());
        }
        holds("methods " + found, found.equals(due));
        for (Constructor<?> maker : ChimeVan.class.getDeclaredConstructors()) {
            holds(maker + " is the document's", Modifier.isPublic(maker.getModifiers())
                    && maker.getParameterCount() == 0);
        }
        holds("the class is final", Modifier.isFinal(ChimeVan.class.getModifiers()));
        for (Class<?> inside : ChimeVan.class.getDeclaredClasses()) {
            holds(inside + " is static", Modifier.isStatic(inside.getModifiers()));
            for (Method method : inside.getDeclaredMethods()) {
                holds(method + " has a name of its own", !names.contains(method.getName()));
            }
        }
    }

    private static String text(Method method) {
        StringBuilder text = new StringBuilder(method.getReturnType() + " " + method.getName() + "(");
        for (Class<?> kind : method.getParameterTypes()) {
            text.append(text.charAt(text.length() - 1) == '(' ? "" : ",").append(kind);
        }
        return text.append(")").toString();
    }

    private static void constants() throws IllegalAccessException {
        CHECK.due("NONE", ChimeVan.NONE, -1);
        CHECK.due("UNKNOWN", ChimeVan.UNKNOWN, -101);
        CHECK.due("OUTSIDE", ChimeVan.OUTSIDE, -102);
        CHECK.due("STATE", ChimeVan.STATE, -103);
        CHECK.due("FULL", ChimeVan.FULL, -104);
        int number = 0;
        for (Field field : ChimeVan.class.getDeclaredFields()) {
            number += Modifier.isPublic(field.getModifiers()) ? 1 : 0;
            holds(field + " is public or private", Modifier.isPublic(field.getModifiers())
                    || Modifier.isPrivate(field.getModifiers()));
        }
        CHECK.due("public fields", number, 5);
    }

    private static void sizes(Class<?> one) {
        int fields = 0;
        for (Field field : one.getDeclaredFields()) {
            boolean isStatic = Modifier.isStatic(field.getModifiers());
            fields += isStatic ? 0 : 1;
            holds(field + " is final if it is static", !isStatic || Modifier.isFinal(field.getModifiers()));
        }
        holds(one + " has twenty fields at most", fields <= 20);
        for (Method method : one.getDeclaredMethods()) {
            holds(method + " takes seven at most", method.getParameterCount() <= 7);
        }
    }

    private static void words() throws Exception {
        String source = Files.readString(Path.of("src/main/java/ChimeVan.java"));
        String code = source.replaceAll("(?s)/\\*.*?\\*/", "").replaceAll("//[^\n]*", "");
        holds("no lambda, no method reference", !code.contains("->") && !code.contains("::"));
        for (String word : BANNED) {
            boolean isThere = Pattern.compile("\\b(" + word + "\\b)").matcher(code).find();
            holds("no '" + word + "' in the code", !isThere);
        }
    }

    private static void holds(String what, boolean isSo) {
        CHECK.due(what, isSo ? 1 : 0, 1);
    }
}
