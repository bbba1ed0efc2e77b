import java.io.IOException;
import java.lang.reflect.Constructor;
import java.lang.reflect.Field;
import java.lang.reflect.Method;
import java.lang.reflect.Modifier;
import java.nio.charset.StandardCharsets;
import java.nio.file.Files;
import java.nio.file.Path;
import java.util.List;
import java.util.TreeSet;
import java.util.regex.Matcher;
import java.util.regex.Pattern;

/** The public face is the document's, and what of LANGUAGE.md can be seen from outside is kept. */
public final class FaceTest {
    private static final List<String> FACE = List.of(
        "int set int int int", "int person int int int", "int swap int int", "int told int int", "int asks int int int",
        "int writes int", "int feed int", "int text", "int force int", "int send int int", "int day", "int run int int int",
        "int comes int", "int mistake int int", "int live int int", "int hide int int int int", "int tell int int int",
        "long mean int", "int tells int int int int", "int film int int int", "int drawn int int",
        "long chance int int int int", "int image", "int back", "int count int", "int sheet int int int",
        "int cell int int int", "int copy int int int int int", "int hill int int int int", "int taken int int");
    private static final List<String> NEVER = List.of("throw", "throws", "try", "catch", "finally", "synchronized", "assert",
        "import", "package", "native", "transient", "volatile", "var", "float", "double", "Object", "Override");

    public static void main(String[] args) throws IOException {
        face();
        inside();
        source();
        Due.end();
    }

    private static void face() {
        Class<?> c = NextHouseUp.class;
        Due.due("public and final", Modifier.isPublic(c.getModifiers()) && Modifier.isFinal(c.getModifiers()));
        TreeSet<String> methods = new TreeSet<>();
        for (Method method : c.getDeclaredMethods()) {
            if (Modifier.isPrivate(method.getModifiers())) {
                continue;
            }
            StringBuilder face = new StringBuilder(method.getReturnType() + " " + method.getName());
            for (Class<?> type : method.getParameterTypes()) {
                face.append(' ').append(type);
            }
            methods.add(face.toString());
            Due.due("public: " + face, method.getModifiers(), Modifier.PUBLIC);
        }
        Due.due("the document's methods and no other: " + methods, methods.equals(new TreeSet<>(FACE)));
        TreeSet<String> constants = new TreeSet<>();
        for (Field field : c.getDeclaredFields()) {
            if (!Modifier.isPrivate(field.getModifiers())) {
                constants.add(field.getType() + " " + field.getName());
                Due.due("a constant: " + field, field.getModifiers(), Modifier.PUBLIC | Modifier.STATIC | Modifier.FINAL);
            }
        }
        TreeSet<String> want = new TreeSet<>(List.of("int NONE", "int BAD", "int STATE", "int FULL", "long NO"));
        Due.due("the document's constants and no other", constants.equals(want));
        Constructor<?>[] made = c.getDeclaredConstructors();
        Due.due("one constructor", made.length, 1);
        Due.due("it is public, of nothing", made[0].getModifiers() == Modifier.PUBLIC && made[0].getParameterCount() == 0);
    }

    private static void inside() {
        TreeSet<String> names = new TreeSet<>();
        for (String face : FACE) {
            names.add(face.split(" ")[1]);
        }
        Class<?>[] all = NextHouseUp.class.getDeclaredClasses();
        Due.due("some twelve classes at most", all.length <= 12);
        for (Class<?> c : all) {
            Due.due("static, not public: " + c, Modifier.isStatic(c.getModifiers()) && !Modifier.isPublic(c.getModifiers()));
            for (Method method : c.getDeclaredMethods()) {
                Due.due("seven parameters at most: " + method, method.getParameterCount() <= 7);
                Due.due("no public name: " + method, !Modifier.isPrivate(method.getModifiers()) || !names.contains(method.getName()));
            }
        }
        for (Method method : NextHouseUp.class.getDeclaredMethods()) {
            Due.due("no public name: " + method, !Modifier.isPrivate(method.getModifiers()) || !names.contains(method.getName()));
        }
        TreeSet<Class<?>> none = new TreeSet<>((a, b) -> a.getName().compareTo(b.getName()));
        none.addAll(List.of(all));
        none.add(NextHouseUp.class);
        for (Class<?> c : none) {
            int own = 0;
            for (Field field : c.getDeclaredFields()) {
                own += Modifier.isStatic(field.getModifiers()) ? 0 : 1;
                Due.due("static is final: " + field, !Modifier.isStatic(field.getModifiers()) || Modifier.isFinal(field.getModifiers()));
            }
            Due.due("some twenty fields at most: " + c, own <= 20);
        }
    }

    private static void source() throws IOException {
        String text = Files.readString(Path.of("src/main/java/NextHouseUp.java"), StandardCharsets.ISO_8859_1);
        Due.due("signs 1 to 127", text.chars().allMatch(c -> c >= 1 && c <= 127));
        String code = text.replaceAll("(?s)/\\*.*?\\*/", "").replaceAll("//[^\n]*", "").replaceAll("\"[^\"\n]*\"", "\"\"");
        Matcher words = Pattern.compile("\\w+|->|::|@").matcher(code);
        while (words.find()) {
            Due.due("no " + words.group(), !NEVER.contains(words.group()) && !words.group().matches("->|::|@"));
        }
        Due.due("no static block", !Pattern.compile("static\\s*\\{").matcher(code).find());
        Matcher made = Pattern.compile("(?m)^(.*)\\bnew\\b.*$").matcher(code);
        while (made.find()) {
            String line = made.group();
            boolean field = line.matches("\\s*(private )?final \\w+\\[] \\w+ = new .*");
            boolean inConstructor = code.lastIndexOf("public NextHouseUp() {", made.start()) >= 0
                && made.start() < code.indexOf("\n    }\n", code.indexOf("public NextHouseUp() {"));
            Due.due("objects come with the object alone: " + line, field || inConstructor);
        }
        Matcher methods = Pattern.compile("(?m)^( {4}| {8})[a-z][\\w\\[\\] ]*\\([^;{]*\\) \\{\n").matcher(code);
        while (methods.find()) {
            int end = code.indexOf("\n" + methods.group(1) + "}\n", methods.start());
            long lines = code.substring(methods.start(), end + 1).chars().filter(c -> c == '\n').count() + 1;
            Due.due("a short method: " + methods.group().trim(), lines <= 60);
        }
    }
}
