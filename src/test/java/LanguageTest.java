import java.nio.file.Files;
import java.nio.file.Path;
import java.util.Set;
import java.util.regex.Matcher;
import java.util.regex.Pattern;

/** The rules of LANGUAGE.md that can be seen in the text of the class. It is run from the project's folder. */
public final class LanguageTest {
    private static int wrong = 0;

    public static void main(String[] args) throws Exception {
        String text = Files.readString(Path.of("src/main/java/HeardWords.java"));
        String bare = withoutTextsAndComments(text);
        String[] words = {"throw", "throws", "try", "catch", "finally", "synchronized", "assert", "package", "volatile", "transient", "native",
            "instanceof", "var", "Object", "hashCode", "toString", "Random", "Thread", "Exception", "Error", "currentTimeMillis", "nanoTime"};
        for (String word : words) {
            absent(bare, "\\b" + word + "\\b");
        }
        for (String sign : new String[] {"->", "::", "@", "static\\s*\\{", "\\w+Exact\\b", "\\[\\]\\[\\]\\[\\]", "while\\s*\\(\\s*true", "for\\s*\\(\\s*;;"}) {
            absent(bare, sign);
        }
        onlyImports(bare);
        onlyCalls(bare);
        for (int i = 0; i < text.length(); i++) {
            if (text.charAt(i) > 127) {
                say("a sign above 127 at " + i);
            }
        }
        shortMethods(bare);
        System.out.println(wrong == 0 ? "LanguageTest: nothing is seen that the rules forbid" : wrong + " things are against the rules");
        if (wrong != 0) {
            System.exit(1);
        }
    }

    private static void say(String what) {
        wrong++;
        System.out.println(what);
    }

    private static String withoutTextsAndComments(String text) {
        return text.replaceAll("(?s)/\\*.*?\\*/", "").replaceAll("//[^\n]*", "").replaceAll("\"[^\"\n]*\"", "TEXT").replaceAll("'.'", "SIGN");
    }

    private static void absent(String bare, String pattern) {
        Matcher m = Pattern.compile(pattern).matcher(bare);
        if (m.find()) {
            say("found: " + m.group());
        }
    }

    private static void onlyImports(String bare) {
        Matcher m = Pattern.compile("import\\s+([^;]+);").matcher(bare);
        while (m.find()) {
            if (!Set.of("java.util.Arrays", "java.util.ArrayList", "java.util.List").contains(m.group(1))) {
                say("import " + m.group(1));
            }
        }
    }

    private static void onlyCalls(String bare) {
        Set<String> well = Set.of("Integer.bitCount", "Math.abs", "Math.max", "Math.min", "Arrays.fill", "System.arraycopy");
        Matcher m = Pattern.compile("\\b(Integer|Long|Math|Arrays|System|String|Character|Byte|Short)\\.\\w+").matcher(bare.replaceAll("import[^;]*;", ""));
        while (m.find()) {
            if (!well.contains(m.group())) {
                say("call of " + m.group());
            }
        }
    }

    /** A method's head stands at four or eight blanks and ends with an open brace; its end stands as far in. */
    private static void shortMethods(String bare) {
        String[] lines = bare.split("\n");
        for (int i = 0; i < lines.length; i++) {
            Matcher head = Pattern.compile("( {4}| {8})(?!.*\\bclass\\b)\\w.*\\) \\{").matcher(lines[i]);
            if (head.matches()) {
                int end = i;
                while (end < lines.length && !lines[end].equals(head.group(1) + "}")) {
                    end++;
                }
                if (end - i > 40) {
                    say("a long method: " + lines[i].trim());
                }
            }
        }
    }
}
