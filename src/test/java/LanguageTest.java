import com.sun.source.tree.*;
import com.sun.source.util.JavacTask;
import com.sun.source.util.TreePath;
import com.sun.source.util.TreePathScanner;
import com.sun.source.util.Trees;
import java.nio.file.Files;
import java.nio.file.Path;
import java.util.ArrayList;
import java.util.HashMap;
import java.util.HashSet;
import java.util.LinkedHashMap;
import java.util.LinkedHashSet;
import java.util.List;
import java.util.Map;
import java.util.Set;
import java.util.TreeSet;
import java.util.regex.Matcher;
import java.util.regex.Pattern;
import javax.lang.model.element.Element;
import javax.lang.model.element.ElementKind;
import javax.lang.model.element.ExecutableElement;
import javax.lang.model.element.Modifier;
import javax.lang.model.element.TypeElement;
import javax.lang.model.element.VariableElement;
import javax.lang.model.type.TypeMirror;
import javax.tools.JavaCompiler;
import javax.tools.StandardJavaFileManager;
import javax.tools.ToolProvider;

/** Rules of LANGUAGE.md, looked for in the class as the compiler understands it; the numbers are the rules'. */
public final class LanguageTest {
    private static final Path SOURCE = Path.of("src/main/java/NightHouses.java");
    private static final Path DOCUMENT = Path.of("../shared/DOC.md");
    private static final int MOST_LINES = 60;
    private static final int MOST_PARAMETERS = 7;
    private static final int MOST_CLASSES = 12;
    private static final int MOST_FIELDS = 20;
    private static final int DEEPEST = 8;
    /** Rule 4, as far as the class uses it; what is not here is not refused by the rule, but not used yet either. */
    private static final Set<String> LIBRARY = Set.of("String.length", "String.charAt", "String.indexOf",
            "System.arraycopy", "Arrays.fill", "Math.abs", "Math.max", "Math.min", "Math.floorMod", "Integer.bitCount",
            "Long.bitCount", "Long.numberOfTrailingZeros", "Long.numberOfLeadingZeros", "Object.<init>");
    private static final Set<String> NUMBERS = Set.of("int", "long", "short", "byte", "char", "boolean");

    private static final Set<Tree.Kind> FORBIDDEN = Set.of(Tree.Kind.LAMBDA_EXPRESSION, Tree.Kind.MEMBER_REFERENCE,
            Tree.Kind.THROW, Tree.Kind.TRY, Tree.Kind.CATCH, Tree.Kind.SYNCHRONIZED, Tree.Kind.ASSERT,
            Tree.Kind.SWITCH_EXPRESSION, Tree.Kind.YIELD, Tree.Kind.DO_WHILE_LOOP, Tree.Kind.ENHANCED_FOR_LOOP,
            Tree.Kind.INSTANCE_OF, Tree.Kind.FLOAT_LITERAL, Tree.Kind.DOUBLE_LITERAL);

    private static final Map<String, Set<String>> CALLS = new LinkedHashMap<>();
    private static Trees trees;
    private static CompilationUnitTree unit;

    public static void main(String[] args) throws Exception {
        JavaCompiler compiler = ToolProvider.getSystemJavaCompiler();
        try (StandardJavaFileManager files = compiler.getStandardFileManager(null, null, null)) {
            JavacTask task = (JavacTask) compiler.getTask(null, files, null, List.of("-proc:none"), null,
                    files.getJavaFileObjects(SOURCE));
            unit = task.parse().iterator().next();
            task.analyze();
            trees = Trees.instance(task);
            Check.due("rule 1: a package line", unit.getPackage() != null, false);
            Check.due("one class in the file", unit.getTypeDecls().size(), 1);
            imports();
            Looker looker = new Looker();
            looker.scan(unit, null);
            Check.due("rule 11: classes " + looker.classes, looker.classes.size() <= MOST_CLASSES, true);
            face(looker);
            depth();
        }
        Check.finish();
    }

    private static void imports() {
        for (ImportTree each : unit.getImports()) {
            String name = each.getQualifiedIdentifier().toString();
            Check.due("import " + name, name.matches("java\\.util\\.(Arrays|ArrayList|List|Iterator)"), true);
        }
    }

    /** Rule 1: the members of the document's face, and no others that can be seen. */
    private static void face(Looker looker) throws Exception {
        String text = Files.readString(DOCUMENT);
        Matcher block = Pattern.compile("(?s)```java\n(.*?)```").matcher(text);
        Check.due("the document has a face", block.find(), true);
        Set<String> due = new TreeSet<>();
        Matcher line = Pattern.compile("(?m)^    public ([^;]*);").matcher(block.group(1));
        while (line.find()) {
            due.add(line.group(1).replaceAll(" (\\w+)([,)])", "$2").replaceAll(" = .*", ""));
        }
        Check.due("the face's members", due.size(), 50);
        Check.due("the face: " + looker.face + " of " + due, looker.face.equals(due), true);
        for (String each : looker.hidden) {
            Check.due("a private method bears a public name: " + each, looker.shown.contains(each), false);
        }
    }

    /** Rule 11: how deep calls go that are no recursion; the library's own call counts as one. */
    private static void depth() {
        Map<String, Set<String>> reached = new HashMap<>();
        for (String each : CALLS.keySet()) {
            Set<String> all = new HashSet<>();
            reach(each, all);
            reached.put(each, all);
        }
        Map<String, List<String>> longest = new HashMap<>();
        for (String each : CALLS.keySet()) {
            List<String> path = longest(each, reached, longest, new HashSet<>());
            Check.due("rule 11: calls " + path, path.size() <= DEEPEST, true);
        }
    }

    private static void reach(String from, Set<String> all) {
        for (String to : CALLS.getOrDefault(from, Set.of())) {
            if (all.add(to)) {
                reach(to, all);
            }
        }
    }

    private static boolean recursive(String method, Map<String, Set<String>> reached) {
        return reached.getOrDefault(method, Set.of()).contains(method);
    }

    /** The longest chain of calls, without those that are recursions. */
    private static List<String> longest(String from, Map<String, Set<String>> reached, Map<String, List<String>> known,
            Set<String> open) {
        if (known.containsKey(from) && !recursive(from, reached)) {
            return known.get(from);
        }
        if (!open.add(from)) {
            return List.of();
        }
        List<String> best = List.of();
        for (String to : CALLS.getOrDefault(from, Set.of())) {
            List<String> rest = longest(to, reached, known, open);
            best = rest.size() > best.size() ? rest : best;
        }
        open.remove(from);
        List<String> path = new ArrayList<>(recursive(from, reached) ? List.of() : List.of(from));
        path.addAll(best);
        known.put(from, path);
        return path;
    }

    /** Walks through the class and notes what the rules speak of. */
    private static final class Looker extends TreePathScanner<Void, Void> {
        final Set<String> classes = new LinkedHashSet<>();
        final Set<String> face = new TreeSet<>();
        final Set<String> shown = new HashSet<>();
        final Set<String> hidden = new LinkedHashSet<>();
        private String method = null;

        private Element element(Tree tree) {
            return trees.getElement(new TreePath(getCurrentPath(), tree));
        }

        private void refuse(String rule, Tree tree) {
            long line = unit.getLineMap().getLineNumber(trees.getSourcePositions().getStartPosition(unit, tree));
            Check.due(rule + " at line " + line, 1, 0);
        }

        @Override
        public Void visitClass(ClassTree tree, Void none) {
            String name = tree.getSimpleName().toString();
            boolean outer = name.equals("NightHouses");
            nameClasses(tree);
            Set<Modifier> is = tree.getModifiers().getFlags();
            Check.due("rule 1: class " + name, outer ? is.contains(Modifier.PUBLIC) && is.contains(Modifier.FINAL)
                    : is.contains(Modifier.STATIC) && !is.contains(Modifier.PUBLIC) && !is.contains(Modifier.PROTECTED), true);
            Check.due("rule 2: class " + name + " in another class", method == null, true);
            int fields = 0;
            for (Tree member : tree.getMembers()) {
                if (member instanceof VariableTree field) {
                    boolean still = field.getModifiers().getFlags().contains(Modifier.STATIC);
                    fields += still ? 0 : 1;
                    if (still) {
                        constant(field);
                    }
                }
                if (member instanceof BlockTree) {
                    refuse("rule 5: a block of a class", member);
                }
                if (outer) {
                    memberOfFace(member);
                }
            }
            Check.due("rule 11: fields of " + name + ": " + fields, fields <= MOST_FIELDS, true);
            return super.visitClass(tree, none);
        }

        /** All of them ahead of what stands in them, so that a type of the class's own is known as such. */
        private void nameClasses(ClassTree tree) {
            classes.add(tree.getSimpleName().toString());
            for (Tree member : tree.getMembers()) {
                if (member instanceof ClassTree each) {
                    classes.add(each.getSimpleName().toString());
                }
            }
        }

        private void memberOfFace(Tree member) {
            if (member instanceof ClassTree) {
                return;
            }
            Element each = element(member);
            Set<Modifier> is = each.getModifiers();
            if (is.contains(Modifier.PRIVATE)) {
                return;
            }
            Check.due("rule 1: " + each + " is public", is.contains(Modifier.PUBLIC), true);
            String said = each.toString();
            if (each.getKind() == ElementKind.CONSTRUCTOR) {
                face.add(said);
            } else if (each instanceof ExecutableElement method) {
                face.add(method.getReturnType() + " " + said.replace(",", ", "));
                shown.add(method.getSimpleName().toString());
            } else {
                face.add("static final " + each.asType() + " " + said);
            }
        }

        private void constant(VariableTree field) {
            boolean last = field.getModifiers().getFlags().contains(Modifier.FINAL);
            String type = field.getType().toString();
            boolean row = type.matches("(int|long|char|byte)\\[\\]") && field.getInitializer() instanceof NewArrayTree;
            Check.due("rule 5: " + field, last && (row || type.matches("int|long|boolean|char|String")), true);
        }

        @Override
        public Void visitMethod(MethodTree tree, Void none) {
            Element each = trees.getElement(getCurrentPath());
            String before = method;
            method = named(each);
            CALLS.computeIfAbsent(method, key -> new LinkedHashSet<>());
            boolean written = trees.getSourcePositions().getEndPosition(unit, tree) >= 0;
            LineMap lines = unit.getLineMap();
            if (written && tree.getBody() != null) {
                long from = lines.getLineNumber(trees.getSourcePositions().getStartPosition(unit, tree));
                long to = lines.getLineNumber(trees.getSourcePositions().getEndPosition(unit, tree));
                Check.due("rule 11: lines of " + method + ": " + (to - from + 1), to - from < MOST_LINES, true);
            }
            Check.due("rule 11: parameters of " + method, tree.getParameters().size() <= MOST_PARAMETERS, true);
            Check.due("rule 6: throws of " + method, tree.getThrows().size(), 0);
            if (each.getModifiers().contains(Modifier.PRIVATE) && each.getKind() == ElementKind.METHOD) {
                hidden.add(each.getSimpleName().toString());
            }
            Check.due("rule 6: " + method, method.matches(".*\\.(equals|hashCode|toString)"), false);
            super.visitMethod(tree, none);
            method = before;
            return null;
        }

        private String named(Element each) {
            return ((TypeElement) each.getEnclosingElement()).getSimpleName() + "." + each.getSimpleName();
        }

        @Override
        public Void visitMethodInvocation(MethodInvocationTree tree, Void none) {
            called(trees.getElement(new TreePath(getCurrentPath(), tree.getMethodSelect())), tree);
            return super.visitMethodInvocation(tree, none);
        }

        private void called(Element to, Tree tree) {
            if (to == null) {
                refuse("a call of what is not known", tree);
                return;
            }
            String name = named(to);
            boolean own = to.getEnclosingElement().toString().startsWith("NightHouses");
            Check.due("rule 4: " + name, own || LIBRARY.contains(name), true);
            if (method != null) {
                CALLS.get(method).add(name);
            }
        }

        @Override
        public Void visitNewClass(NewClassTree tree, Void none) {
            called(trees.getElement(getCurrentPath()), tree);
            Check.due("rule 2: a class without a name", tree.getClassBody() == null, true);
            onlyInConstructors(tree);
            return super.visitNewClass(tree, none);
        }

        @Override
        public Void visitNewArray(NewArrayTree tree, Void none) {
            onlyInConstructors(tree);
            Check.due("rule 3: dimensions", tree.getDimensions().size() <= 1, true);
            return super.visitNewArray(tree, none);
        }

        /** Rule 12: what a call would make is counted, so only constructors make something. */
        private void onlyInConstructors(Tree tree) {
            if (method != null && !method.endsWith(".<init>")) {
                refuse("rule 12: something made in " + method, tree);
            }
        }

        @Override
        public Void visitVariable(VariableTree tree, Void none) {
            String type = tree.getType() == null ? "var" : tree.getType().toString();
            String plain = type.replace("[]", "");
            boolean known = NUMBERS.contains(plain) || classes.contains(plain) || type.equals("String");
            Check.due("rule 3: " + type, known, true);
            Check.due("rule 3: " + type, type.contains("[][]"), false);
            return super.visitVariable(tree, none);
        }

        @Override
        public Void visitBinary(BinaryTree tree, Void none) {
            boolean text = isText(tree.getLeftOperand()) || isText(tree.getRightOperand());
            Check.due("rules 6 and 10: texts and " + tree.getKind(), text, false);
            boolean parts = tree.getKind() == Tree.Kind.DIVIDE || tree.getKind() == Tree.Kind.REMAINDER;
            if (parts && !looked(tree.getRightOperand())) {
                refuse("rule 7: a divisor " + tree.getRightOperand(), tree);
            }
            return super.visitBinary(tree, none);
        }

        private boolean isText(Tree operand) {
            TypeMirror type = trees.getTypeMirror(new TreePath(getCurrentPath(), operand));
            return type != null && type.toString().equals("java.lang.String");
        }

        /** A constant that is not 0, or one of the three divisors that the lines around them look at. */
        private boolean looked(Tree divisor) {
            Element each = element(divisor);
            if (each instanceof VariableElement known && known.getConstantValue() instanceof Integer value) {
                return value != 0;
            }
            String said = divisor.toString();
            return said.matches("[1-9]\\d*") || said.matches("right|shared|b");
        }

        @Override
        public Void visitCompoundAssignment(CompoundAssignmentTree tree, Void none) {
            Check.due("rule 10: texts", isText(tree.getVariable()), false);
            Check.due("rule 7: " + tree, tree.getKind() == Tree.Kind.DIVIDE_ASSIGNMENT
                    || tree.getKind() == Tree.Kind.REMAINDER_ASSIGNMENT, false);
            return super.visitCompoundAssignment(tree, none);
        }

        @Override
        public Void visitForLoop(ForLoopTree tree, Void none) {
            Check.due("rule 9: a loop without an end: " + tree.getInitializer(), tree.getCondition() != null, true);
            return super.visitForLoop(tree, none);
        }

        @Override
        public Void visitWhileLoop(WhileLoopTree tree, Void none) {
            Check.due("rule 9: " + tree.getCondition(), tree.getCondition().toString().startsWith("(next < length && "), true);
            return super.visitWhileLoop(tree, none);
        }

        @Override
        public Void scan(Tree tree, Void none) {
            if (tree != null && FORBIDDEN.contains(tree.getKind())) {
                refuse("rules 2 and 6: " + tree.getKind(), tree);
            }
            return super.scan(tree, none);
        }
    }
}
