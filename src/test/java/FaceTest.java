import java.lang.reflect.Constructor;
import java.lang.reflect.Field;
import java.lang.reflect.Method;
import java.lang.reflect.Modifier;
import java.nio.file.Files;
import java.nio.file.Path;
import java.util.ArrayList;
import java.util.Arrays;
import java.util.List;
import java.util.Set;
import java.util.TreeSet;
import java.util.regex.Matcher;
import java.util.regex.Pattern;

/** The public face, and what the page on the language tells that a text search or reflection can see. */
public final class FaceTest {
    private static final Check C = new Check("FaceTest");
    private static final String[] FACE = {
        "day 3", "boat 4", "beast 4", "log 2", "watcher 1", "pole 3", "sight 7", "feed 5", "end 1", "row 0", "cousins 0",
        "law 0", "fault 0", "of 2", "there 1", "odds 3", "unknown 2", "span 2", "most 1", "story 3", "sweep 4", "likely 1",
        "moved 2", "kin 2", "lot 1", "offer 4", "says 1", "plan 1", "year 3", "more 3", "grew 1", "ripple 3", "picture 3",
        "run 3", "world 2", "image 1", "back 1", "count 1", "status 0"
    };

    public static void main(String[] args) throws Exception {
        C.due("NONE", LakeWatch.NONE, -1);
        face();
        classesInside();
        text();
        C.done();
    }

    private static void isSo(String what, boolean so) {
        C.due(what, so ? 1 : 0, 1);
    }

    private static void face() {
        Set<String> due = new TreeSet<>(Arrays.asList(FACE));
        Set<String> got = new TreeSet<>();
        for (Method method : LakeWatch.class.getDeclaredMethods()) {
            if (Modifier.isPublic(method.getModifiers())) {
                got.add(method.getName() + " " + method.getParameterCount());
                isSo(method + " answers an int", method.getReturnType() == int.class);
            } else {
                isSo(method + " is private", Modifier.isPrivate(method.getModifiers()));
            }
        }
        isSo("the face has " + due + ", and not " + got, due.equals(got));
        isSo("final", Modifier.isFinal(LakeWatch.class.getModifiers()));
        Constructor<?>[] makers = LakeWatch.class.getDeclaredConstructors();
        isSo("one constructor", makers.length == 1 && makers[0].getParameterCount() == 0);
        for (Field field : LakeWatch.class.getDeclaredFields()) {
            boolean isNone = field.getName().equals("NONE") && Modifier.isPublic(field.getModifiers());
            isSo(field + " is private", isNone || Modifier.isPrivate(field.getModifiers()));
        }
    }

    private static void classesInside() {
        List<Class<?>> all = new ArrayList<>(Arrays.asList(LakeWatch.class.getDeclaredClasses()));
        all.add(LakeWatch.class);
        isSo("twelve classes at most", all.size() <= 12);
        Set<String> face = new TreeSet<>();
        for (String row : FACE) {
            face.add(row.split(" ")[0]);
        }
        for (Class<?> one : all) {
            int fields = 0;
            isSo(one + " is static", one == LakeWatch.class || Modifier.isStatic(one.getModifiers()));
            for (Field field : one.getDeclaredFields()) {
                boolean isStatic = Modifier.isStatic(field.getModifiers());
                fields += isStatic ? 0 : 1;
                isSo(field + " is final", !isStatic || Modifier.isFinal(field.getModifiers()));
            }
            isSo(one + " has twenty fields at most", fields <= 20);
            for (Method method : one.getDeclaredMethods()) {
                isSo(method + " has seven parameters at most", method.getParameterCount() <= 7);
                boolean isPublic = Modifier.isPublic(method.getModifiers());
                isSo(method + " has a name of its own", isPublic || !face.contains(method.getName()));
            }
        }
    }

    private static void text() throws Exception {
        String text = Files.readString(Path.of("src/main/java/LakeWatch.java"));
        String code = text.replaceAll("(?s)/\\*.*?\\*/", " ").replaceAll("//[^\n]*", " ");
        isSo("no other sign than 1 to 127", text.chars().allMatch(sign -> sign > 0 && sign < 128));
        String[] banned = {"throw", "try", "catch", "synchronized", "assert", "throws", "yield", "var", "default\\s*->",
            "->", "::", "package", "instanceof Object", "System\\.(?!arraycopy)", "Exact\\(", "Object", "Random", "Thread",
            "hashCode", "toString", "static\\s*\\{", "String\\s*\\[", "@"};
        for (String word : banned) {
            String edge = Character.isLetter(word.charAt(0)) ? "\\b" : "";
            Matcher found = Pattern.compile(edge + word + (word.matches("[a-z]+") ? "\\b" : "")).matcher(code);
            boolean isThere = found.find();
            isSo("no " + word, !isThere);
        }
        Matcher imports = Pattern.compile("import ([^;]*);").matcher(code);
        while (imports.find()) {
            isSo("import " + imports.group(1), imports.group(1).equals("java.util.Arrays"));
        }
        shortMethods(text);
    }

    private static void shortMethods(String text) {
        int from = 0;
        String[] lines = text.split("\n");
        for (int at = 0; at < lines.length; at++) {
            if (lines[at].matches(" {4}( {4})?[a-zA-Z].*\\(.*") || lines[at].trim().isEmpty()) {
                from = at;
            }
            if (lines[at].matches(" {4}( {4})?}")) {
                isSo("the method that ends at line " + (at + 1) + " is short", at - from < 60);
            }
        }
    }
}
