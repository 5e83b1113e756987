import java.io.File;
import java.io.IOException;
import java.lang.reflect.Method;
import java.lang.reflect.Modifier;
import java.nio.file.Files;
import java.nio.file.Path;
import java.util.ArrayList;
import java.util.Arrays;
import java.util.List;
import java.util.Set;
import java.util.TreeSet;
import java.util.regex.Matcher;
import java.util.regex.Pattern;

/**
 * What README.md shows of the class's use: its program is compiled and run by the commands that stand there, and prints
 * what stands there; its pieces answer, line by line, as their comments say; and what it tells of the tests is so.
 */
public final class ReadmeTest {
    private static final Pattern FENCE = Pattern.compile("(?ms)^```(\\w+)\\n(.*?)^```$");
    private static final Pattern LINE =
            Pattern.compile("(?:(?:int|long|float|double) (\\w+) = )?(day\\.\\w+\\(.*\\)); +// (answers|throws) ([-\\w.]*\\w).*");
    private static final Path MAIN = Path.of("src/main/java/Couriersday.java");
    private static int wrong = 0;
    private static int answers = 0;

    public static void main(String[] args) throws Exception {
        String page = Files.readString(Path.of("README.md"));
        List<String[]> blocks = blocksOf(page);
        Path directory = Files.createTempDirectory("readme");
        try {
            Files.copy(MAIN, directory.resolve("Couriersday.java"));
            runProgram(blocks, directory);
            runPieces(blocks, directory);
        } finally {
            deleteAll(directory.toFile());
        }
        checkCalls(page);
        checkTests(page, blocks);
        System.out.println(wrong == 0 ? "README.md holds: " + answers + " answers" : wrong + " things are not as in README.md");
        if (wrong != 0) {
            System.exit(1);
        }
    }

    private static void check(boolean isGood, String told) {
        if (!isGood) {
            wrong++;
            System.out.println(told);
        }
    }

    /** The blocks of the page: the word at the fence, and the text. */
    private static List<String[]> blocksOf(String page) {
        List<String[]> blocks = new ArrayList<>();
        Matcher fences = FENCE.matcher(page);
        while (fences.find()) {
            blocks.add(new String[] {fences.group(1), fences.group(2)});
        }
        return blocks;
    }

    /** The page begins with a program, the commands that compile and run it, and what it prints. */
    private static void runProgram(List<String[]> blocks, Path directory) throws Exception {
        if (blocks.size() < 3 || !kindsOf(blocks.subList(0, 3)).equals("java sh text ")) {
            check(false, "README.md does not begin with a program, its commands and what it prints");
            return;
        }
        Matcher name = Pattern.compile("public class (\\w+)").matcher(blocks.get(0)[1]);
        check(name.find(), "the program has no class");
        Files.writeString(directory.resolve(name.group(1) + ".java"), blocks.get(0)[1]);
        String printed = "";
        for (String command : blocks.get(1)[1].split("\n")) {
            printed = run(directory, command.split(" "));
        }
        check(printed.equals(blocks.get(2)[1]), "the program prints:\n" + printed);
    }

    private static String kindsOf(List<String[]> blocks) {
        StringBuilder kinds = new StringBuilder();
        for (String[] block : blocks) {
            kinds.append(block[0]).append(' ');
        }
        return kinds.toString();
    }

    private static String run(Path directory, String... command) throws Exception {
        Process process = new ProcessBuilder(command).directory(directory.toFile()).redirectErrorStream(true).start();
        String printed = new String(process.getInputStream().readAllBytes());
        check(process.waitFor() == 0, String.join(" ", command) + " fails: " + printed);
        return printed;
    }

    /** Each piece of the page in a method of its own; each call of it is looked at. */
    private static void runPieces(List<String[]> blocks, Path directory) throws Exception {
        StringBuilder pieces = new StringBuilder("public class Pieces {\n");
        StringBuilder calls = new StringBuilder();
        int number = 0;
        for (String[] block : blocks.subList(1, blocks.size())) {
            if (block[0].equals("java")) {
                number++;
                calls.append("        piece").append(number).append("();\n");
                pieces.append("    static void piece").append(number).append("() {\n");
                for (String line : block[1].split("\n")) {
                    pieces.append(checked(line));
                }
                pieces.append("    }\n\n");
            }
        }
        check(number == 5, "README.md has " + number + " pieces, a chapter each");
        pieces.append("    static void look(String call, String got, String due) {\n")
                .append("        if (!got.equals(due)) {\n")
                .append("            System.out.println(call + \" answers \" + got + \", not \" + due);\n")
                .append("        }\n    }\n\n")
                .append("    public static void main(String[] args) {\n").append(calls).append("    }\n}\n");
        Files.writeString(directory.resolve("Pieces.java"), pieces.toString());
        run(directory, "javac", "-encoding", "UTF-8", "Couriersday.java", "Pieces.java");
        String printed = run(directory, "java", "Pieces");
        check(printed.isEmpty(), "the pieces of README.md: " + printed);
    }

    /** A line of a piece as Java that tells where its call does not answer as its comment says. */
    private static String checked(String line) {
        if (line.equals("Couriersday day = new Couriersday();")) {
            return "        " + line + "\n";
        }
        Matcher parts = LINE.matcher(line);
        if (!parts.matches()) {
            check(false, "a line of README.md without an answer: " + line);
            return "";
        }
        answers++;
        String call = parts.group(2);
        String due = parts.group(4);
        if (parts.group(3).equals("throws")) {
            return "        try {\n" + look(call, "\"\" + " + call, due) + "        } catch (" + due + " e) {\n"
                    + look(call, "e.getClass().getSimpleName()", due) + "        }\n";
        }
        if (parts.group(1) == null) {
            return look(call, "\"\" + " + call, due);
        }
        String begin = line.substring(0, line.indexOf(';') + 1);
        return "        " + begin + "\n" + look(call, "\"\" + " + parts.group(1), due);
    }

    private static String look(String call, String got, String due) {
        return "        look(\"" + call + "\", " + got + ", \"" + due + "\");\n";
    }

    private static void deleteAll(File file) throws IOException {
        File[] inside = file.listFiles();
        for (File one : inside == null ? new File[0] : inside) {
            deleteAll(one);
        }
        Files.delete(file.toPath());
    }

    /** Each call of the class is named at its chapter, and used in some block. */
    private static void checkCalls(String page) {
        for (Method one : Couriersday.class.getDeclaredMethods()) {
            if (Modifier.isPublic(one.getModifiers())) {
                check(page.contains("`" + one.getName() + "`"), "README.md does not name " + one.getName());
                check(page.contains("day." + one.getName() + "("), "README.md does not use " + one.getName());
            }
        }
    }

    /** The tests are run by .ci/run alone, and the page names each file of them. */
    private static void checkTests(String page, List<String[]> blocks) {
        check(blocks.get(blocks.size() - 1)[1].equals(".ci/run\n"), "README.md does not name .ci/run for the tests");
        check(Files.isExecutable(Path.of(".ci/run")), ".ci/run can't be run");
        Set<String> named = new TreeSet<>();
        Matcher names = Pattern.compile("`(\\w+Test|Edges\\.java)`").matcher(page);
        while (names.find()) {
            named.add(names.group(1).replace(".java", ""));
        }
        Set<String> there = new TreeSet<>();
        for (String file : Arrays.asList(new File("src/test/java").list())) {
            there.add(file.replace(".java", ""));
        }
        check(named.equals(there), "README.md names the tests " + named + ", there are " + there);
    }
}
