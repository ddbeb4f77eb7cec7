import java.io.IOException;
import java.lang.reflect.Constructor;
import java.lang.reflect.Field;
import java.lang.reflect.Method;
import java.lang.reflect.Modifier;
import java.nio.file.Files;
import java.nio.file.Path;
import java.util.Set;
import java.util.TreeSet;
import java.util.regex.Matcher;
import java.util.regex.Pattern;

/** The face is the document's and no more, and the source keeps to those rules of LANGUAGE.md that a text search can tell. */
public final class FaceTest {
    private static final String[] FACE = {
        "feed 5", "valley 1 A", "fault 0", "told 1 A", "cell 3 IA", "build 2 I", "fell 2 I", "years 1 A", "echoes 3 IA",
        "echo 5 IA", "count 4 IA", "field 2 NA", "most 4 NA", "least 4 NA", "mean 4 NA", "worth 2 NA", "gain 3 IN",
        "building 3 NA", "rests 1 A", "fair 2 NA", "trade 2 NA", "unlike 2 A", "heard 4 IA", "loudest 4 IA",
        "compose 3 IA", "book 4 IA", "forget 0", "explain 1 A", "ask 1 A", "snows 2 I", "safe 0", "hush 2 I",
        "deaf 2 NA", "image 0", "restore 0", "status 1", "sums 1"};
    private static final String[] UNFIT = {
        "->", "::", "Exact(", "synchronized", "assert ", "finally", "catch", "try ", "System.out", "System.nano", "System.current",
        "Random", "Thread", "static {", "record ", "instanceof", "getClass", "hashCode", "toString", "double", "float"};

    public static void main(String[] args) throws IOException {
        Check.so("public and final", Modifier.isPublic(SoldEchoes.class.getModifiers())
            && Modifier.isFinal(SoldEchoes.class.getModifiers()));
        methods();
        fieldsAndConstructors();
        classes();
        source(Files.readString(Path.of(args.length > 0 ? args[0] : ".", "src/main/java/SoldEchoes.java")));
        Check.end("FaceTest");
    }

    private static void methods() {
        Set<String> due = new TreeSet<>(Set.of(FACE));
        Set<String> got = new TreeSet<>();
        Set<String> names = new TreeSet<>();
        for (Method m : SoldEchoes.class.getDeclaredMethods()) {
            if (Modifier.isPublic(m.getModifiers())) {
                got.add(faceOf(m));
                names.add(m.getName());
            }
        }
        Check.so("the methods of the face: " + got, got.equals(due));
        for (Method m : SoldEchoes.class.getDeclaredMethods()) {
            if (!Modifier.isPublic(m.getModifiers()) && !m.isSynthetic()) {
                Check.so(m + " is private", Modifier.isPrivate(m.getModifiers()));
                Check.so(m + " has a name of its own", !names.contains(m.getName()));
            }
        }
    }

    private static String faceOf(Method m) {
        StringBuilder b = new StringBuilder(m.getName() + " " + m.getParameterCount());
        Check.so(m + " answers an int and is no static one", m.getReturnType() == int.class && !Modifier.isStatic(m.getModifiers()));
        for (int i = 0; i < m.getExceptionTypes().length; i++) {
            b.append(i == 0 ? " " : "").append(m.getExceptionTypes()[i].getSimpleName().replace("IllegalA", "A").charAt(0));
        }
        return b.toString();
    }

    private static void fieldsAndConstructors() {
        for (Field f : SoldEchoes.class.getDeclaredFields()) {
            boolean none = f.getName().equals("NONE");
            Check.so(f + " is as visible as it may be", Modifier.isPublic(f.getModifiers()) == none
                && (none || Modifier.isPrivate(f.getModifiers())));
        }
        Constructor<?>[] all = SoldEchoes.class.getDeclaredConstructors();
        Check.due("constructors", all.length, 1);
        Check.due("its parameters", all[0].getParameterCount(), 0);
        Check.due("NONE", SoldEchoes.NONE, -1);
    }

    private static void classes() {
        Class<?>[] inside = SoldEchoes.class.getDeclaredClasses();
        Check.so("twelve classes at most", inside.length < 12);
        for (Class<?> c : inside) {
            Check.so(c + " is static, and not public", Modifier.isStatic(c.getModifiers()) && !Modifier.isPublic(c.getModifiers()));
            int fields = 0;
            for (Field f : c.getDeclaredFields()) {
                boolean isStatic = Modifier.isStatic(f.getModifiers());
                Check.so(f + ": static fields are final", !isStatic || Modifier.isFinal(f.getModifiers()));
                fields += isStatic ? 0 : 1;
            }
            Check.so(c + " has twenty fields at most", fields <= 20);
            for (Method m : c.getDeclaredMethods()) {
                Check.so(m + " takes seven parameters at most", m.getParameterCount() <= 7);
                Check.so(m + " has no name of the face", !String.join(" ", FACE).matches("(.* )?" + m.getName() + " [0-9].*"));
            }
        }
    }

    private static void source(String text) {
        String bare = text.replaceAll("(?s)/\\*.*?\\*/", "").replaceAll("//[^\n]*", "");
        for (String unfit : UNFIT) {
            Check.so("the source has no '" + unfit + "'", !bare.contains(unfit));
        }
        Matcher imports = Pattern.compile("(?m)^import (.*);$").matcher(bare);
        while (imports.find()) {
            Check.so("import " + imports.group(1), imports.group(1).equals("java.util.NoSuchElementException"));
        }
        Matcher thrown = Pattern.compile("throw ([^;]*);").matcher(bare);
        while (thrown.find()) {
            Check.so("throw " + thrown.group(1), thrown.group(1).matches(
                "new (IllegalArgumentException|IndexOutOfBoundsException|NoSuchElementException)\\(\"[^\"]*\"\\)"));
        }
        shortMethods(text.split("\n"));
        for (int i = 0; i < text.length(); i++) {
            if (text.charAt(i) > 127) {
                Check.so("sign " + i + " of the source is below 128", false);
            }
        }
    }

    /** A method begins with a line that ends in ") {" or names exceptions, and ends at the brace that stands as far in. */
    private static void shortMethods(String[] lines) {
        int methods = 0;
        for (int i = 0; i < lines.length; i++) {
            String bare = lines[i].trim();
            String margin = lines[i].substring(0, lines[i].length() - bare.length());
            if (!bare.endsWith("{") || !bare.contains(")") || bare.matches("(\\} else )?(if|for|while|switch)\\b.*")) {
                continue;
            }
            int end = i;
            while (end < lines.length && !lines[end].equals(margin + "}")) {
                end++;
            }
            methods++;
            Check.so("sixty lines at most: " + bare, end - i < 60);
        }
        Check.so("methods looked at: " + methods, methods > 100);
    }
}
