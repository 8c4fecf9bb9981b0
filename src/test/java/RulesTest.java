import java.lang.reflect.Modifier;
import java.nio.file.Files;
import java.nio.file.Path;
import java.util.TreeSet;
import java.util.regex.Matcher;
import java.util.regex.Pattern;

/** The face of the class, and those rules of LANGUAGE.md that can be seen in the source's text. */
public final class RulesTest {
    private static final Check c = new Check();
    private static final String[] FACE = {"of/2", "at/2", "asks/3", "book/4", "reader/2", "terms/2", "feed/5", "end/1",
        "row/0", "slips/0", "law/0", "orders/0", "fault/0", "stopped/0", "force/1", "lend/2", "bring/1", "waits/2",
        "pass/0", "undo/0", "served/1", "turn/1", "way/3", "sets/3", "ask/3", "last/2", "nest/1", "all/1", "owed/1",
        "whole/2", "years/2", "drawn/2", "image/1", "back/1", "count/1", "status/0"};

    public static void main(String[] args) throws Exception {
        face();
        String source = Files.readString(Path.of("src/main/java/PeopleLent.java"));
        String code = source.replaceAll("(?s)/\\*.*?\\*/", "").replaceAll("//.*", "");
        forbidden(code);
        methods(code);
        c.finish("RulesTest");
    }

    private static void face() {
        TreeSet<String> due = new TreeSet<>();
        for (String one : FACE) {
            due.add(one);
        }
        TreeSet<String> seen = new TreeSet<>();
        for (var method : PeopleLent.class.getDeclaredMethods()) {
            if (!Modifier.isPrivate(method.getModifiers())) {
                seen.add(method.getName() + "/" + method.getParameterCount());
                Class<?> answer = method.getName().equals("whole") ? long.class : int.class;
                c.due(method.getName() + " is public", Modifier.isPublic(method.getModifiers()) ? 1 : 0, 1);
                c.due(method.getName() + "'s answer", method.getReturnType() == answer ? 1 : 0, 1);
                for (Class<?> type : method.getParameterTypes()) {
                    c.due(method.getName() + "'s arguments", type == int.class ? 1 : 0, 1);
                }
            }
        }
        c.due("the face is the document's: " + seen, seen.equals(due) ? 1 : 0, 1);
        for (var field : PeopleLent.class.getDeclaredFields()) {
            boolean isPrivate = Modifier.isPrivate(field.getModifiers());
            c.due(field.getName() + " is private", isPrivate ? 1 : 0, field.getName().equals("NONE") ? 0 : 1);
        }
        int classes = 1;
        for (Class<?> inner : PeopleLent.class.getDeclaredClasses()) {
            classes++;
            c.due(inner + " is static", Modifier.isStatic(inner.getModifiers()) ? 1 : 0, 1);
            int fields = 0;
            for (var field : inner.getDeclaredFields()) {
                boolean isStatic = Modifier.isStatic(field.getModifiers());
                fields += isStatic ? 0 : 1;
                boolean isFinal = Modifier.isFinal(field.getModifiers());
                c.due(inner + ": a static field is final", isStatic && !isFinal ? 1 : 0, 0);
            }
            c.due(inner + " has at most 20 fields", fields <= 20 ? 1 : 0, 1);
            for (var method : inner.getDeclaredMethods()) {
                boolean clash = false;
                for (String one : FACE) {
                    clash |= one.startsWith(method.getName() + "/");
                }
                c.due(inner + "." + method.getName() + " bears no name of the face", clash ? 1 : 0, 0);
            }
        }
        c.due("at most 12 classes", classes <= 12 ? 1 : 0, 1);
    }

    private static void forbidden(String code) {
        String[] words = {"throw", "throws", "try", "catch", "finally", "synchronized", "assert", "hashCode", "toString",
            "Object", "System.out", "System.currentTimeMillis", "System.nanoTime", "Random", "Exact", "Thread",
            "package", "protected", "native", "volatile", "transient", "instanceof", "var", "float", "double"};
        for (String word : words) {
            c.due("no " + word, Pattern.compile("\\b" + Pattern.quote(word) + "\\b").matcher(code).find() ? 1 : 0, 0);
        }
        c.due("no lambda", code.contains("->") ? 1 : 0, 0);
        c.due("no method reference", code.contains("::") ? 1 : 0, 0);
        c.due("no static block", Pattern.compile("static\\s*\\{").matcher(code).find() ? 1 : 0, 0);
        c.due("no loop without a bound", Pattern.compile("while\\s*\\(true\\)|for\\s*\\(;;").matcher(code).find() ? 1 : 0, 0);
        c.due("one public class", code.split("public (final )?class").length, 2);
        Matcher library = Pattern.compile("\\b(Math|Integer|Long|Arrays|System|List|ArrayList)\\.(\\w+)").matcher(code);
        while (library.find()) {
            boolean known = "max min abs bitCount arraycopy fill".contains(library.group(2));
            c.due(library.group(), known ? 1 : 0, 1);
        }
    }

    private static void methods(String code) {
        Matcher head = Pattern.compile("(?m)^( +)(?:[\\w\\[\\]]+ )*\\w+\\(([^)]*)\\) \\{$").matcher(code);
        int seen = 0;
        while (head.find()) {
            if (head.group().trim().matches("(if|for|while|switch|\\} else).*")) {
                continue;
            }
            seen++;
            int end = code.indexOf("\n" + head.group(1) + "}", head.end());
            int lines = code.substring(head.start(), end).split("\n").length + 1;
            c.due(head.group().trim() + " has " + lines + " lines", lines <= 60 ? 1 : 0, 1);
            c.due(head.group().trim() + " parameters", head.group(2).split(",").length <= 7 ? 1 : 0, 1);
        }
        c.due("methods are seen", seen > 100 ? 1 : 0, 1);
    }
}
