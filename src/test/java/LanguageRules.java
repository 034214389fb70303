import com.sun.source.tree.BinaryTree;
import com.sun.source.tree.ClassTree;
import com.sun.source.tree.CompilationUnitTree;
import com.sun.source.tree.MethodInvocationTree;
import com.sun.source.tree.MethodTree;
import com.sun.source.tree.ModifiersTree;
import com.sun.source.tree.NewArrayTree;
import com.sun.source.tree.NewClassTree;
import com.sun.source.tree.Tree;
import com.sun.source.tree.VariableTree;
import com.sun.source.util.JavacTask;
import com.sun.source.util.TreePath;
import com.sun.source.util.TreePathScanner;
import com.sun.source.util.Trees;
import java.lang.reflect.Constructor;
import java.lang.reflect.Field;
import java.lang.reflect.Method;
import java.lang.reflect.Modifier;
import java.util.ArrayList;
import java.util.EnumSet;
import java.util.HashMap;
import java.util.HashSet;
import java.util.List;
import java.util.Map;
import java.util.Set;
import java.util.TreeSet;
import javax.lang.model.element.Element;
import javax.lang.model.element.ElementKind;
import javax.tools.JavaCompiler;
import javax.tools.StandardJavaFileManager;
import javax.tools.ToolProvider;

// What of ../shared/LANGUAGE.md can be seen from the source, and the document's public face.
public final class LanguageRules {
    private static final String SOURCE = "src/main/java/SlipWheel.java";
    private static final Set<Tree.Kind> FORBIDDEN = EnumSet.of(Tree.Kind.THROW, Tree.Kind.TRY, Tree.Kind.CATCH,
        Tree.Kind.SYNCHRONIZED, Tree.Kind.ASSERT, Tree.Kind.LAMBDA_EXPRESSION, Tree.Kind.MEMBER_REFERENCE,
        Tree.Kind.SWITCH_EXPRESSION, Tree.Kind.PACKAGE, Tree.Kind.IMPORT, Tree.Kind.ANNOTATION);
    private static final Set<String> LIBRARY = Set.of("java.lang.Math.max", "java.lang.Math.min", "java.lang.Math.floorMod",
        "java.lang.Integer.bitCount", "java.lang.System.arraycopy");
    private static final String[] FACE = {"follow(int,int)", "line(int,int)", "cell(int)", "weight(int,int,int)",
        "dead(int,boolean)", "swap(int,int)", "turn(boolean)", "told(int,int)", "type(long,int)", "tongue()", "book()",
        "count(int)", "read(int,int)", "come(int)", "odds(int,int,int)", "add(int)", "draw(int)", "seed(int)", "undo(int)",
        "reach(int,int)", "end()", "soon(int,int)", "forget(int)", "habit(int,int)", "guess(int)", "prevented(int)",
        "seated(int,int,int)", "image()", "restore()", "ways(int,int,int,int)", "differ(int,int,int,int,int)",
        "sheet(int,int,int)", "drop(int)", "item(int,int,int,int)", "film(int,int,int,int,int)"};
    private static final Set<String> NAMES = new HashSet<>();
    private static int wrong = 0;

    private static void must(boolean holds, String what) {
        if (!holds) {
            wrong++;
            System.out.println(what);
        }
    }

    private static void lookAtFace() {
        Set<String> face = new TreeSet<>(List.of(FACE));
        Set<String> found = new TreeSet<>();
        for (Method method : SlipWheel.class.getDeclaredMethods()) {
            StringBuilder types = new StringBuilder();
            for (Class<?> type : method.getParameterTypes()) {
                types.append(types.length() == 0 ? "" : ",").append(type);
            }
            if (Modifier.isPublic(method.getModifiers())) {
                found.add(method.getName() + "(" + types + ")");
                NAMES.add(method.getName());
                must(method.getReturnType() == int.class, "1: answer of " + method);
            } else {
                must(Modifier.isPrivate(method.getModifiers()), "1: " + method);
            }
        }
        must(found.equals(face), "1: the face is " + found);
        for (Method method : SlipWheel.class.getDeclaredMethods()) {
            must(Modifier.isPublic(method.getModifiers()) || !NAMES.contains(method.getName()), "1: name of " + method);
        }
        Set<String> constants = new TreeSet<>();
        for (Field field : SlipWheel.class.getDeclaredFields()) {
            if (!Modifier.isPrivate(field.getModifiers())) {
                constants.add(field.getName());
                must(Modifier.toString(field.getModifiers()).equals("public static final"), "1: " + field);
            }
        }
        must(constants.equals(new TreeSet<>(List.of("BAD", "NOT", "FULL", "NONE", "NULL", "CAST", "INDEX", "SIZE"))), "1: constants are " + constants);
        Constructor<?>[] constructors = SlipWheel.class.getDeclaredConstructors();
        must(constructors.length == 1 && Modifier.isPublic(constructors[0].getModifiers()) && constructors[0].getParameterCount() == 0, "1: constructors");
        must(Modifier.toString(SlipWheel.class.getModifiers()).equals("public final"), "1: the class");
    }

    private static final class Scan extends TreePathScanner<Void, Void> {
        private final Trees trees;
        private final CompilationUnitTree unit;
        private final Map<Element, Set<Element>> calls = new HashMap<>();
        private int classes = 0;

        Scan(Trees trees, CompilationUnitTree unit) {
            this.trees = trees;
            this.unit = unit;
        }

        private long lineOf(long position) {
            return unit.getLineMap().getLineNumber(position);
        }

        @Override
        public Void scan(Tree tree, Void nothing) {
            if (tree != null) {
                must(!FORBIDDEN.contains(tree.getKind()), "forbidden: " + tree.getKind());
            }
            return super.scan(tree, nothing);
        }

        @Override
        public Void visitClass(ClassTree tree, Void nothing) {
            classes++;
            Set<javax.lang.model.element.Modifier> flags = tree.getModifiers().getFlags();
            must(classes == 1 || flags.contains(javax.lang.model.element.Modifier.STATIC), "2: " + tree.getSimpleName());
            must(!tree.getSimpleName().toString().isEmpty(), "2: a class without a name");
            int fields = 0;
            for (Tree member : tree.getMembers()) {
                must(member.getKind() != Tree.Kind.BLOCK, "5: an initialiser block");
                if (member instanceof VariableTree field) {
                    ModifiersTree modifiers = field.getModifiers();
                    boolean isStatic = modifiers.getFlags().contains(javax.lang.model.element.Modifier.STATIC);
                    must(!isStatic || modifiers.getFlags().contains(javax.lang.model.element.Modifier.FINAL), "5: " + field.getName());
                    fields += isStatic ? 0 : 1;
                }
            }
            must(fields <= 20, "11: fields of " + tree.getSimpleName());
            return super.visitClass(tree, nothing);
        }

        @Override
        public Void visitMethod(MethodTree tree, Void nothing) {
            long first = lineOf(trees.getSourcePositions().getStartPosition(unit, tree));
            long last = lineOf(trees.getSourcePositions().getEndPosition(unit, tree));
            must(last - first < 60, "11: length of " + tree.getName());
            must(tree.getParameters().size() <= 7, "11: parameters of " + tree.getName());
            must(tree.getThrows().isEmpty(), "6: " + tree.getName());
            boolean isOfTheFace = getCurrentPath().getParentPath().getParentPath().getLeaf() == unit;
            must(isOfTheFace || !NAMES.contains(tree.getName().toString()), "1: name of " + tree.getName());
            calls.putIfAbsent(trees.getElement(getCurrentPath()), new HashSet<>());
            return super.visitMethod(tree, nothing);
        }

        @Override
        public Void visitMethodInvocation(MethodInvocationTree tree, Void nothing) {
            Element called = trees.getElement(new TreePath(getCurrentPath(), tree.getMethodSelect()));
            TreePath path = getCurrentPath();
            while (path != null && !(path.getLeaf() instanceof MethodTree)) {
                path = path.getParentPath();
            }
            String owner = called.getEnclosingElement().toString();
            if (owner.startsWith("SlipWheel") && path != null) {
                calls.computeIfAbsent(trees.getElement(path), key -> new HashSet<>()).add(called);
            } else if (called.getKind() != ElementKind.CONSTRUCTOR) {
                must(LIBRARY.contains(owner + "." + called.getSimpleName()), "4: " + owner + "." + called);
            }
            return super.visitMethodInvocation(tree, nothing);
        }

        // All rows are made with the object: no call makes anything.
        private void mustBeMadeAtFirst(String what) {
            for (TreePath path = getCurrentPath(); path != null; path = path.getParentPath()) {
                if (path.getLeaf() instanceof MethodTree method) {
                    must(method.getName().contentEquals("<init>"), "12: " + what + " in " + method.getName());
                }
            }
        }

        @Override
        public Void visitNewClass(NewClassTree tree, Void nothing) {
            mustBeMadeAtFirst("an object");
            return super.visitNewClass(tree, nothing);
        }

        @Override
        public Void visitNewArray(NewArrayTree tree, Void nothing) {
            mustBeMadeAtFirst("an array");
            return super.visitNewArray(tree, nothing);
        }

        @Override
        public Void visitBinary(BinaryTree tree, Void nothing) {
            must(!trees.getTypeMirror(getCurrentPath()).toString().equals("java.lang.String"), "10: texts joined by +");
            return super.visitBinary(tree, nothing);
        }

        int depthOf(Element method, List<Element> above) {
            int deepest = 0;
            for (Element called : calls.getOrDefault(method, Set.of())) {
                if (called.equals(method)) {
                    must(called.getModifiers().containsAll(List.of(javax.lang.model.element.Modifier.PRIVATE,
                        javax.lang.model.element.Modifier.STATIC)), "8: " + called);
                    continue;
                }
                must(!above.contains(called), "8: a round of calls by " + called);
                List<Element> path = new ArrayList<>(above);
                path.add(method);
                deepest = Math.max(deepest, path.size() > 30 ? 0 : depthOf(called, path));
            }
            return 1 + deepest;
        }
    }

    private static void lookAtSource() throws java.io.IOException {
        JavaCompiler compiler = ToolProvider.getSystemJavaCompiler();
        try (StandardJavaFileManager files = compiler.getStandardFileManager(null, null, null)) {
            JavacTask task = (JavacTask) compiler.getTask(null, files, null, List.of("-proc:none"), null, files.getJavaFileObjects(SOURCE));
            CompilationUnitTree unit = task.parse().iterator().next();
            task.analyze();
            Scan scan = new Scan(Trees.instance(task), unit);
            scan.scan(unit, null);
            must(scan.classes <= 12, "11: " + scan.classes + " classes");
            must(unit.getTypeDecls().size() == 1, "1: one class alone");
            int deepest = 0;
            for (Element method : scan.calls.keySet()) {
                int depth = scan.depthOf(method, new ArrayList<>());
                must(depth <= 8, "11: " + method + " goes " + depth + " deep");
                deepest = Math.max(deepest, depth);
            }
            System.out.println(scan.classes + " classes, " + scan.calls.size() + " methods, calls at most " + deepest + " deep");
        }
    }

    private static void lookAtSigns() throws java.io.IOException {
        byte[] bytes = java.nio.file.Files.readAllBytes(java.nio.file.Path.of(SOURCE));
        for (byte sign : bytes) {
            must(sign > 0, "4: a sign not 1 to 127");
        }
    }

    public static void main(String[] args) throws java.io.IOException {
        lookAtFace();
        lookAtSource();
        lookAtSigns();
        System.out.println(wrong == 0 ? "the rules are kept" : wrong + " breaches");
        if (wrong != 0) {
            System.exit(1);
        }
    }
}
