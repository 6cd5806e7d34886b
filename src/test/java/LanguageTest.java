import java.io.IOException;
import java.nio.file.Files;
import java.nio.file.Path;
import java.util.regex.Matcher;
import java.util.regex.Pattern;

/** The rules of LANGUAGE.md that can be seen in the text of the class. */
public final class LanguageTest {
    private static final String[] NEVER = {"->", "::", "\\btry\\b", "\\bcatch\\b", "\\bfinally\\b", "\\bsynchronized\\b", "\\bassert\\b",
        "static\\s*\\{", "Exact\\(", "\\bObject\\b", "\\bequals\\(", "\\bhashCode\\b", "\\btoString\\b", "\\bprotected\\b", "\\bdouble\\b",
        "\\bfloat\\b", "\\bvar\\b", "\\bRandom\\b", "\\bThread\\b", "\\bcurrentTimeMillis\\b", "\\bnanoTime\\b"};
    private static final String[] FACE = {"feed", "end", "city", "fault", "square", "statue", "walker", "way", "likes", "now", "move",
        "clean", "show", "lend", "days", "undo", "yields", "solvent", "today", "placing", "placed", "route", "routeAt", "bids", "bid",
        "cure", "cured", "taste", "surely", "tells", "plot", "plotters", "law", "bare", "grass", "trodden", "odds", "plaque", "byteAt",
        "log", "logged", "sentence", "said", "image", "restore", "count"};

    public static void main(String[] args) throws IOException {
        String source = Files.readString(Path.of("src/main/java/StatueRent.java"));
        for (char c : source.toCharArray()) {
            if (c > 127) {
                Check.fail("a sign above 127");
            }
        }
        String code = source.replaceAll("(?s)/\\*.*?\\*/", "").replaceAll("//[^\n]*", "").replaceAll("\"[^\"\n]*\"", "\"\"");
        for (String never : NEVER) {
            if (Pattern.compile(never).matcher(code).find()) {
                Check.fail("not in the language: " + never);
            }
        }
        imports(code);
        face(code);
        lengths(code);
        madeInCalls(code);
        Check.finish();
    }

    private static void imports(String code) {
        Matcher m = Pattern.compile("import ([^;]*);").matcher(code);
        while (m.find()) {
            if (!m.group(1).equals("java.util.NoSuchElementException")) {
                Check.fail("import " + m.group(1));
            }
        }
    }

    /** Each name of the face stands once as a method, and it is public. */
    private static void face(String code) {
        for (String name : FACE) {
            int methods = 0;
            Matcher m = Pattern.compile("(?m)^ *(.*\\b(?:int|boolean|long|void)) " + name + "\\([^;]*\\{").matcher(code);
            while (m.find()) {
                methods++;
                if (!m.group(1).startsWith("public ")) {
                    Check.fail("another method by the name of " + name);
                }
            }
            if (methods != 1) {
                Check.fail(methods + " methods by the name of " + name);
            }
        }
        int publics = code.split("\\bpublic\\b", -1).length - 1;
        // beside the methods the class, the constructor and the constant
        if (publics != FACE.length + 3) {
            Check.fail(publics + " public members");
        }
    }

    private static void lengths(String code) {
        Matcher m = Pattern.compile("(?m)^( +)[^\n=;]*\\(([^()]*)\\)[^\n=;]*\\{$").matcher(code);
        while (m.find()) {
            int close = code.indexOf("\n" + m.group(1) + "}", m.end());
            int lines = code.substring(m.start(), close).split("\n").length;
            if (lines > 60 || m.group(2).split(",").length > 7) {
                Check.fail("too long: " + m.group().trim());
            }
        }
        int classes = code.split("\\bclass ", -1).length - 1;
        if (classes > 13) {
            Check.fail(classes + " classes");
        }
    }

    /** Rows are made by fields and constructors alone; a call makes nothing but what it throws. */
    private static void madeInCalls(String code) {
        for (String line : code.split("\n")) {
            boolean field = line.matches(" +(private )?final .*= new .*");
            boolean thrown = line.contains("throw new ");
            boolean inConstructor = line.matches(" +(images|kept)\\[\\w\\] = new .*");
            if (line.contains("new ") && !field && !thrown && !inConstructor) {
                Check.fail("made in a call: " + line.trim());
            }
        }
    }
}
