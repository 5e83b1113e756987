import com.sun.source.tree.ClassTree;
import com.sun.source.tree.ExpressionTree;
import com.sun.source.tree.MethodTree;
import com.sun.source.tree.Tree;
import com.sun.source.tree.VariableTree;
import com.sun.source.util.JavacTask;
import java.net.URI;
import java.nio.file.Files;
import java.nio.file.Path;
import java.util.ArrayList;
import java.util.List;
import java.util.Set;
import java.util.TreeSet;
import javax.lang.model.element.Modifier;
import javax.tools.JavaFileObject;
import javax.tools.SimpleJavaFileObject;
import javax.tools.ToolProvider;

/** That the class has the face that ../shared/DOC.md shows, to each name, type and throws, and nothing more. */
public final class FaceTest {
    private static int wrong = 0;

    public static void main(String[] args) throws Exception {
        ClassTree due = classIn("face", faceOf(Files.readString(Path.of("../shared/DOC.md"))));
        ClassTree built = classIn("class", Files.readString(Path.of("src/main/java/Couriersday.java")));
        compare(headOf(due), headOf(built));
        Set<String> wanted = new TreeSet<>(openMembers(due));
        Set<String> found = new TreeSet<>(openMembers(built));
        for (String one : wanted) {
            check(found.contains(one), "is not there as the document tells it: " + one);
        }
        for (String one : found) {
            check(wanted.contains(one), "is open, but not in the document: " + one);
        }
        check(wanted.size() == 47, "the document's face has " + wanted.size() + " members");
        checkPromises(Files.readString(Path.of("../shared/DOC.md")), wanted);
        System.out.println(wrong == 0 ? "the face is the document's" : wrong + " things of the face are not so");
        if (wrong != 0) {
            System.exit(1);
        }
    }

    private static void check(boolean isGood, String told) {
        if (!isGood) {
            wrong++;
            System.out.println(told);
        }
    }

    private static void compare(String due, String got) {
        check(due.equals(got), "is " + got + ", due is " + due);
    }

    /** The document's block of Java. */
    private static String faceOf(String document) {
        int begin = document.indexOf("```java\n") + "```java\n".length();
        return document.substring(begin, document.indexOf("```", begin));
    }

    private static ClassTree classIn(String name, String text) throws Exception {
        SimpleJavaFileObject file = new SimpleJavaFileObject(URI.create("string:///" + name + ".java"),
                JavaFileObject.Kind.SOURCE) {
            @Override
            public CharSequence getCharContent(boolean ignoreErrors) {
                return text;
            }
        };
        JavacTask task = (JavacTask) ToolProvider.getSystemJavaCompiler().getTask(null, null, null,
                List.of("-proc:none"), null, List.of(file));
        return (ClassTree) task.parse().iterator().next().getTypeDecls().get(0);
    }

    private static String headOf(ClassTree one) {
        return one.getModifiers().getFlags() + " " + one.getKind() + " " + one.getSimpleName() + " "
                + one.getExtendsClause() + " " + one.getImplementsClause() + " " + one.getTypeParameters();
    }

    /** The members that are not private, but for the classes inside. */
    private static List<String> openMembers(ClassTree one) {
        List<String> members = new ArrayList<>();
        for (Tree member : one.getMembers()) {
            if (member instanceof MethodTree) {
                MethodTree method = (MethodTree) member;
                if (!method.getModifiers().getFlags().contains(Modifier.PRIVATE)) {
                    members.add(method.getModifiers().getFlags() + " " + signatureOf(method));
                }
            } else if (member instanceof VariableTree) {
                VariableTree field = (VariableTree) member;
                if (!field.getModifiers().getFlags().contains(Modifier.PRIVATE)) {
                    members.add(field.getModifiers().getFlags() + " " + field.getType() + " " + field.getName() + " = "
                            + field.getInitializer());
                }
            }
        }
        return members;
    }

    private static String signatureOf(MethodTree method) {
        StringBuilder signature = new StringBuilder();
        if (method.getReturnType() != null) {
            signature.append(method.getReturnType()).append(' ');
        }
        signature.append(method.getName().contentEquals("<init>") ? "Couriersday" : method.getName()).append('(');
        String between = "";
        for (VariableTree parameter : method.getParameters()) {
            signature.append(between).append(parameter.getType()).append(' ').append(parameter.getName());
            between = ", ";
        }
        signature.append(')');
        between = " throws ";
        for (ExpressionTree thrown : method.getThrows()) {
            signature.append(between).append(thrown);
            between = ", ";
        }
        return signature.toString();
    }

    /** Each promise's own signature must be that of the face: otherwise a test by the face tests something else. */
    private static void checkPromises(String document, Set<String> wanted) {
        int promises = 0;
        String[] lines = document.split("\n");
        for (int i = 0; i + 2 < lines.length; i++) {
            if (lines[i].startsWith("## Promise ")) {
                promises++;
                String told = lines[i + 2].substring(1, lines[i + 2].indexOf('`', 1));
                check(wanted.contains("[public] " + told), "promise " + promises + " is not in the face: " + told);
            }
        }
        check(promises == 43, "the document has " + promises + " promises");
    }
}
