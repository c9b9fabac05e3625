import java.io.IOException;
import java.lang.reflect.Constructor;
import java.lang.reflect.Field;
import java.lang.reflect.Member;
import java.lang.reflect.Method;
import java.lang.reflect.Modifier;
import java.nio.file.Files;
import java.nio.file.Path;
import java.util.ArrayList;
import java.util.Arrays;
import java.util.List;
import java.util.TreeSet;
import java.util.regex.Matcher;
import java.util.regex.Pattern;

/** The class has the face of the document and no more, and its source keeps to what of LANGUAGE.md a test can see. */
public final class FaceTest {
    private static final Checks C = new Checks();

    public static void main(String[] args) throws IOException {
        String doc = Files.readString(Path.of("../shared/DOC.md"));
        String source = Files.readString(Path.of("src/main/java/EelClerk.java"));
        face(doc);
        members();
        source(source);
        C.close("FaceTest");
    }

    private static void is(String what, boolean so) {
        C.due(what, so ? 1 : 0, 1);
    }

    private static void face(String doc) {
        String face = doc.substring(doc.indexOf("```java") + 7, doc.indexOf("## Terms"));
        TreeSet<String> due = new TreeSet<>();
        Matcher m = Pattern.compile("public (?:static final )?(\\w+) (\\w+)(?:\\(([^)]*)\\))?( = -1)?;").matcher(face);
        while (m.find()) {
            int args = m.group(3) == null || m.group(3).isEmpty() ? 0 : m.group(3).split(",").length;
            due.add(m.group(1) + " " + m.group(2) + (m.group(3) == null ? "" : " " + args));
        }
        TreeSet<String> got = new TreeSet<>();
        for (Method method : EelClerk.class.getDeclaredMethods()) {
            if (Modifier.isPublic(method.getModifiers())) {
                got.add(method.getReturnType() + " " + method.getName() + " " + method.getParameterCount());
                is("all arguments are int: " + method, Arrays.stream(method.getParameterTypes()).allMatch(t -> t == int.class));
            }
        }
        for (Field field : EelClerk.class.getDeclaredFields()) {
            if (Modifier.isPublic(field.getModifiers())) {
                got.add(field.getType() + " " + field.getName());
            }
        }
        is("the face is that of the document: " + got + " is not " + due, due.equals(got));
        is("the face was read", due.size() > 40);
        is("final", Modifier.isFinal(EelClerk.class.getModifiers()));
        Constructor<?>[] constructors = EelClerk.class.getDeclaredConstructors();
        is("one constructor", constructors.length == 1 && constructors[0].getParameterCount() == 0);
    }

    private static void members() {
        List<Member> members = new ArrayList<>(List.of(EelClerk.class.getDeclaredMethods()));
        members.addAll(List.of(EelClerk.class.getDeclaredFields()));
        TreeSet<String> open = new TreeSet<>();
        TreeSet<String> closed = new TreeSet<>();
        for (Member member : members) {
            boolean isPublic = Modifier.isPublic(member.getModifiers());
            is("public or private: " + member, isPublic || Modifier.isPrivate(member.getModifiers()));
            if (member instanceof Method) {
                (isPublic ? open : closed).add(member.getName());
            }
        }
        closed.retainAll(open);
        is("no private method bears the name of a public one: " + closed, closed.isEmpty());
        int classes = 1;
        for (Class<?> inner : EelClerk.class.getDeclaredClasses()) {
            classes++;
            int modifiers = inner.getModifiers();
            is("static, not open: " + inner, Modifier.isStatic(modifiers) && !Modifier.isPublic(modifiers));
            fields(inner);
        }
        fields(EelClerk.class);
        is("some twelve classes", classes <= 12);
    }

    private static void fields(Class<?> one) {
        int fields = 0;
        for (Field field : one.getDeclaredFields()) {
            boolean isStatic = Modifier.isStatic(field.getModifiers());
            is("static fields are final: " + field, !isStatic || Modifier.isFinal(field.getModifiers()));
            fields += isStatic ? 0 : 1;
        }
        is("some twenty fields: " + one, fields <= 20);
        for (Method method : one.getDeclaredMethods()) {
            is("seven parameters at most: " + method, method.getParameterCount() <= 7);
        }
    }

    private static void source(String source) {
        String code = source.replaceAll("(?s)/\\*.*?\\*/", "").replaceAll("//[^\n]*", "");
        for (String word : List.of("throw", "try", "catch", "synchronized", "assert", "instanceof", "->", "::", "package",
                "record", "Object", "System.out", "System.exit", "Math.random", "Thread", "native", "volatile",
                "MIN_VALUE", "MAX_VALUE", "Exact", "nanoTime", "currentTimeMillis", "hashCode", "toString")) {
            is("no " + word, !Pattern.compile(Character.isLetter(word.charAt(0)) ? "\\b" + word + "\\b" : word)
                    .matcher(code).find());
        }
        Matcher imports = Pattern.compile("import ([^;]+);").matcher(code);
        while (imports.find()) {
            is("import " + imports.group(1), imports.group(1).equals("java.util.Arrays"));
        }
        int start = 0;
        String[] lines = source.split("\n");
        for (int i = 0; i < lines.length; i++) {
            is("a line of 130 signs at most: " + (i + 1), lines[i].length() <= 130);
            if (lines[i].matches(" {4}(?: {4})?\\S.*\\) \\{")) {
                start = i;
            }
            if (lines[i].matches(" {4}(?: {4})?\\}")) {
                is("a method of sixty lines at most, to line " + (i + 1), i - start < 60 || lines[i].startsWith("    }"));
            }
        }
        is("signs 1 to 127", source.chars().allMatch(c -> c < 128));
    }
}
