import java.io.IOException;
import java.lang.reflect.Constructor;
import java.lang.reflect.Field;
import java.lang.reflect.Method;
import java.lang.reflect.Modifier;
import java.nio.file.Files;
import java.nio.file.Path;
import java.util.Set;
import java.util.TreeSet;
import java.util.regex.Matcher;
import java.util.regex.Pattern;

/** The public face, and those rules of LANGUAGE.md that can be seen from names and words alone. */
public final class FaceTest {
    private static final Due DUE = new Due("FaceTest");
    private static final String[] FACE = {
        "int sound(int,int,int,int)", "int of(int,int)", "int set(int,int)", "int pass(int,int)", "int lose(int)",
        "int find(int,int)", "int row(int,int,int)", "int feed(int)", "int street()", "int told(int)", "int years(int)",
        "int on(int,int)", "int when(int,int)", "int home(int)", "int shared(int)", "int best(int)", "int fewest(int)",
        "int see(int,int,int)", "int louds(int,int)", "int can(int,int)", "int where(int)", "long odds(int,int)",
        "long mean(int,int)", "int plan(int,int)", "int ends(int)", "int book(int,int)", "int looked()",
        "int judge(int,int)", "int image()", "int undo()", "int act(int,int,int)", "int trace(int)", "int taken(int,int)",
        "int count(int)", "int tape(int,int,int)", "int item(int,int,long)", "long read(int,int)",
        "int shift(int,int,int,int,int)"};

    public static void main(String[] args) throws IOException {
        members();
        classesInside();
        words();
        DUE.end();
    }

    private static String signature(Method method) {
        StringBuilder types = new StringBuilder();
        for (Class<?> type : method.getParameterTypes()) {
            types.append(types.length() == 0 ? "" : ",").append(type);
        }
        return method.getReturnType() + " " + method.getName() + "(" + types + ")";
    }

    private static void members() {
        DUE.part("rule 1");
        Class<?> shop = SqueakShop.class;
        DUE.is("modifiers", shop.getModifiers(), Modifier.PUBLIC | Modifier.FINAL);
        DUE.is("constructors", shop.getDeclaredConstructors().length, 1);
        for (Constructor<?> constructor : shop.getDeclaredConstructors()) {
            DUE.holds("the constructor", Modifier.isPublic(constructor.getModifiers()) && constructor.getParameterCount() == 0);
        }
        Set<String> face = new TreeSet<>(Set.of(FACE));
        Set<String> names = names();
        Set<String> found = new TreeSet<>();
        for (Method method : shop.getDeclaredMethods()) {
            if (Modifier.isPrivate(method.getModifiers())) {
                DUE.holds("a private " + method.getName(), !names.contains(method.getName()));
            } else {
                found.add(signature(method));
                DUE.is("modifiers of " + method.getName(), method.getModifiers(), Modifier.PUBLIC);
            }
        }
        DUE.holds("methods are " + found, found.equals(face));
        Set<String> constants = new TreeSet<>();
        for (Field field : shop.getDeclaredFields()) {
            if (!Modifier.isPrivate(field.getModifiers())) {
                constants.add(field.getType() + " " + field.getName());
            }
        }
        DUE.holds("constants are " + constants, constants.equals(
            Set.of("int NONE", "int BAD", "int STATE", "int FULL", "long NO")));
    }

    private static Set<String> names() {
        Set<String> names = new TreeSet<>();
        for (String method : FACE) {
            names.add(method.substring(method.indexOf(' ') + 1, method.indexOf('(')));
        }
        return names;
    }

    private static void classesInside() {
        DUE.part("rules 1, 2, 5, 11");
        Class<?>[] inside = SqueakShop.class.getDeclaredClasses();
        DUE.holds("classes", inside.length < 12);
        Set<String> names = names();
        for (Class<?> one : inside) {
            DUE.holds(one + " is static, not public", Modifier.isStatic(one.getModifiers())
                && !Modifier.isPublic(one.getModifiers()) && !Modifier.isProtected(one.getModifiers()));
            for (Method method : one.getDeclaredMethods()) {
                DUE.holds(one + " has " + method.getName(), !names.contains(method.getName()));
                DUE.holds(method + " takes 7 at most", method.getParameterCount() <= 7);
            }
            fields(one);
        }
        fields(SqueakShop.class);
    }

    private static void fields(Class<?> one) {
        int many = 0;
        for (Field field : one.getDeclaredFields()) {
            boolean isStatic = Modifier.isStatic(field.getModifiers());
            many += isStatic ? 0 : 1;
            DUE.holds(field + " is final", !isStatic || Modifier.isFinal(field.getModifiers()));
        }
        DUE.holds("fields of " + one, many <= 20);
    }

    private static void words() throws IOException {
        DUE.part("rules 2, 4, 6");
        String source = Files.readString(Path.of("src/main/java/SqueakShop.java"));
        String code = source.replaceAll("(?s)/\\*.*?\\*/", " ").replaceAll("//[^\n]*", " ").replaceAll("\"[^\"\n]*\"", "\"\"");
        String[] banned = {"throw", "throws", "try", "catch", "finally", "synchronized", "assert", "import", "package",
            "toString", "hashCode", "protected", "float", "double", "volatile", "transient", "native", "yield", "var"};
        for (String word : banned) {
            DUE.holds("the word " + word, !Pattern.compile("\\b" + word + "\\b").matcher(code).find());
        }
        DUE.holds("a lambda", !code.contains("->"));
        DUE.holds("a method reference", !code.contains("::"));
        Matcher library = Pattern.compile("\\b(Math|System|Arrays|Integer|Long|Character|Byte|Short|Boolean|Object|Thread)\\.(\\w+)")
            .matcher(code);
        Set<String> allowed = Set.of("Math.abs", "Math.max", "Math.min", "Integer.bitCount",
            "Long.MIN_VALUE", "System.arraycopy");
        while (library.find()) {
            DUE.holds("the library's " + library.group(), allowed.contains(library.group()));
        }
    }
}
