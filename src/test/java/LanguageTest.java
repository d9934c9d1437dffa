import com.sun.source.tree.AssertTree;
import com.sun.source.tree.BinaryTree;
import com.sun.source.tree.CatchTree;
import com.sun.source.tree.ClassTree;
import com.sun.source.tree.CompilationUnitTree;
import com.sun.source.tree.ImportTree;
import com.sun.source.tree.LambdaExpressionTree;
import com.sun.source.tree.MemberReferenceTree;
import com.sun.source.tree.MethodInvocationTree;
import com.sun.source.tree.MethodTree;
import com.sun.source.tree.NewClassTree;
import com.sun.source.tree.SynchronizedTree;
import com.sun.source.tree.ThrowTree;
import com.sun.source.tree.Tree;
import com.sun.source.tree.TryTree;
import com.sun.source.tree.TypeCastTree;
import com.sun.source.tree.VariableTree;
import com.sun.source.util.JavacTask;
import com.sun.source.util.TreePathScanner;
import com.sun.source.util.Trees;
import java.lang.reflect.Constructor;
import java.lang.reflect.Field;
import java.lang.reflect.Method;
import java.lang.reflect.Modifier;
import java.nio.file.Files;
import java.nio.file.Path;
import java.util.ArrayList;
import java.util.HashMap;
import java.util.HashSet;
import java.util.LinkedHashMap;
import java.util.List;
import java.util.Map;
import java.util.Set;
import java.util.TreeSet;
import javax.lang.model.element.Element;
import javax.lang.model.element.ElementKind;
import javax.lang.model.type.TypeMirror;
import javax.tools.JavaCompiler;
import javax.tools.StandardJavaFileManager;
import javax.tools.ToolProvider;

/** The rules of ../shared/LANGUAGE.md that a machine can look at. */
public final class LanguageTest {
    private static final Path PROGRAM = Path.of("src/main/java/TreePatches.java");
    private static final Path DOC = Path.of("../shared/DOC.md");
    private static final Set<String> LIBRARY = Set.of("java.lang.System.arraycopy", "java.lang.Math.min",
            "java.lang.Math.max", "Array.clone", "java.lang.Object.<init>");
    private static int wrong = 0;

    public static void main(String[] args) throws Exception {
        checkFace();
        checkSource();
        System.out.println(wrong == 0 ? "the program keeps to the language" : wrong + " rules are broken");
        if (wrong != 0) {
            System.exit(1);
        }
    }

    private static void must(boolean good, String rule) {
        if (!good) {
            wrong++;
            System.out.println("LANGUAGE: " + rule);
        }
    }

    // ---- rule 1, by what was compiled

    private static void checkFace() throws Exception {
        Class<?> type = TreePatches.class;
        must(Modifier.isFinal(type.getModifiers()) && Modifier.isPublic(type.getModifiers()), "1: public and final");
        Set<String> face = new TreeSet<>();
        Set<String> publicNames = new HashSet<>();
        for (Method method : type.getDeclaredMethods()) {
            if (Modifier.isPublic(method.getModifiers())) {
                face.add(signature(method.getReturnType() + " " + method.getName(), method.getParameterTypes()));
                must(publicNames.add(method.getName()), "1: twice " + method.getName());
            } else {
                must(Modifier.isPrivate(method.getModifiers()), "1: " + method + " is not private");
            }
        }
        for (Constructor<?> constructor : type.getDeclaredConstructors()) {
            must(Modifier.isPublic(constructor.getModifiers()), "1: a constructor that is not public");
            face.add(signature("TreePatches", constructor.getParameterTypes()));
        }
        for (Field field : type.getDeclaredFields()) {
            if (Modifier.isPublic(field.getModifiers())) {
                face.add(field.getType() + " " + field.getName() + "=" + field.get(null));
            } else {
                must(Modifier.isPrivate(field.getModifiers()), "1: " + field + " is not private");
            }
        }
        must(face.equals(documentFace()), "1: the face is " + face + ", the document's " + documentFace());
        for (Class<?> inside : type.getDeclaredClasses()) {
            must(Modifier.isStatic(inside.getModifiers()), "2: " + inside + " is not static");
            must(!Modifier.isPublic(inside.getModifiers()) && !Modifier.isProtected(inside.getModifiers()),
                    "1: " + inside + " is public");
            for (Method method : inside.getDeclaredMethods()) {
                must(!publicNames.contains(method.getName()), "1: " + method + " has a public one's name");
            }
        }
        for (Method method : type.getDeclaredMethods()) {
            must(Modifier.isPublic(method.getModifiers()) || !publicNames.contains(method.getName()),
                    "1: " + method + " has a public one's name");
        }
    }

    private static String signature(String name, Class<?>[] parameters) {
        StringBuilder told = new StringBuilder(name).append('(');
        for (Class<?> parameter : parameters) {
            told.append(parameter.getSimpleName()).append(' ');
        }
        return told.append(')').toString();
    }

    private static Set<String> documentFace() throws Exception {
        Set<String> face = new TreeSet<>();
        for (String line : Files.readAllLines(DOC)) {
            String text = line.trim();
            if (!text.startsWith("public ") || !text.endsWith(";")) {
                continue;
            }
            text = text.replace("public ", "").replace("static final ", "").replace(";", "");
            int open = text.indexOf('(');
            if (open < 0) {
                face.add(text.replace(" = ", "="));
                continue;
            }
            StringBuilder told = new StringBuilder(text.substring(0, open + 1));
            for (String parameter : text.substring(open + 1, text.indexOf(')')).split(",")) {
                if (!parameter.isBlank()) {
                    told.append(parameter.trim().split(" ")[0]).append(' ');
                }
            }
            face.add(told.append(')').toString());
        }
        return face;
    }

    // ---- the other rules, by the source

    private static void checkSource() throws Exception {
        JavaCompiler compiler = ToolProvider.getSystemJavaCompiler();
        try (StandardJavaFileManager files = compiler.getStandardFileManager(null, null, null)) {
            JavacTask task = (JavacTask) compiler.getTask(null, files, null, List.of("-proc:none"), null,
                    files.getJavaFileObjects(PROGRAM));
            CompilationUnitTree unit = task.parse().iterator().next();
            task.analyze();
            must(unit.getPackage() == null, "a package line");
            must(unit.getTypeDecls().size() == 1, "one class");
            Looker looker = new Looker(Trees.instance(task), unit);
            looker.scan(unit, null);
            must(looker.classes <= 12, "11: " + looker.classes + " classes");
            int deepest = 0;
            for (String method : looker.calls.keySet()) {
                deepest = Math.max(deepest, looker.deep(method, new ArrayList<>()));
            }
            must(deepest <= 8, "11: calls go " + deepest + " deep: " + looker.longest);
        }
        for (byte sign : Files.readAllBytes(PROGRAM)) {
            must(sign > 0, "4: a sign that is not 1 to 127");
        }
    }

    private static final class Looker extends TreePathScanner<Void, Void> {
        private final Trees trees;
        private final CompilationUnitTree unit;
        private final Map<String, Set<String>> calls = new LinkedHashMap<>();
        private final Map<String, Integer> depths = new HashMap<>();
        private String method = "";
        private int classes = 0;
        private List<String> longest = List.of();

        Looker(Trees trees, CompilationUnitTree unit) {
            this.trees = trees;
            this.unit = unit;
        }

        private long line(long position) {
            return unit.getLineMap().getLineNumber(position);
        }

        private void mustNot(Tree tree, String rule) {
            must(false, rule + " in line " + line(trees.getSourcePositions().getStartPosition(unit, tree)));
        }

        /** The methods on the longest way down from this one; a recursion is a broken rule here. */
        int deep(String from, List<String> way) {
            if (way.contains(from)) {
                must(false, "8: recursion " + way);
                return 0;
            }
            if (depths.containsKey(from)) {
                return depths.get(from);
            }
            way.add(from);
            if (way.size() > longest.size()) {
                longest = new ArrayList<>(way);
            }
            int deepest = 0;
            for (String to : calls.getOrDefault(from, Set.of())) {
                deepest = Math.max(deepest, deep(to, way));
            }
            way.remove(way.size() - 1);
            depths.put(from, deepest + 1);
            return deepest + 1;
        }

        private void noteCall(Element called) {
            String name = called.getEnclosingElement() + "." + called.getSimpleName();
            if (name.startsWith("TreePatches")) {
                calls.computeIfAbsent(method, m -> new TreeSet<>()).add(name + called);
            } else {
                must(LIBRARY.contains(name), "4: " + name);
            }
        }

        @Override
        public Void visitClass(ClassTree tree, Void none) {
            classes++;
            int fields = 0;
            for (Tree member : tree.getMembers()) {
                must(member.getKind() != Tree.Kind.BLOCK, "5: an initialiser block");
                if (member instanceof VariableTree) {
                    String flags = ((VariableTree) member).getModifiers().getFlags().toString();
                    if (flags.contains("static")) {
                        must(flags.contains("final"), "5: " + member);
                    } else {
                        fields++;
                    }
                }
            }
            must(fields <= 20, "11: fields of " + tree.getSimpleName());
            must(!tree.getSimpleName().toString().isEmpty(), "2: an anonymous class");
            return super.visitClass(tree, none);
        }

        @Override
        public Void visitMethod(MethodTree tree, Void none) {
            Element element = trees.getElement(getCurrentPath());
            must(element.getKind() == ElementKind.METHOD || element.getKind() == ElementKind.CONSTRUCTOR, "a method");
            method = element.getEnclosingElement() + "." + element.getSimpleName() + element;
            calls.computeIfAbsent(method, m -> new TreeSet<>());
            must(tree.getParameters().size() <= 7, "11: parameters of " + method);
            long from = line(trees.getSourcePositions().getStartPosition(unit, tree));
            long end = line(trees.getSourcePositions().getEndPosition(unit, tree));
            must(end - from < 60, "11: the length of " + method);
            super.visitMethod(tree, none);
            method = "";
            return null;
        }

        @Override
        public Void visitMethodInvocation(MethodInvocationTree tree, Void none) {
            noteCall(trees.getElement(new com.sun.source.util.TreePath(getCurrentPath(), tree.getMethodSelect())));
            return super.visitMethodInvocation(tree, none);
        }

        @Override
        public Void visitNewClass(NewClassTree tree, Void none) {
            noteCall(trees.getElement(getCurrentPath()));
            return super.visitNewClass(tree, none);
        }

        @Override
        public Void visitBinary(BinaryTree tree, Void none) {
            TypeMirror type = trees.getTypeMirror(getCurrentPath());
            must(!type.toString().equals("java.lang.String"), "10: texts joined by +");
            return super.visitBinary(tree, none);
        }

        @Override
        public Void visitTypeCast(TypeCastTree tree, Void none) {
            must(trees.getTypeMirror(getCurrentPath()).getKind().isPrimitive(), "6: a cast to " + tree.getType());
            return super.visitTypeCast(tree, none);
        }

        @Override
        public Void visitImport(ImportTree tree, Void none) {
            mustNot(tree, "4: an import");
            return super.visitImport(tree, none);
        }

        @Override
        public Void visitThrow(ThrowTree tree, Void none) {
            mustNot(tree, "6: throw");
            return super.visitThrow(tree, none);
        }

        @Override
        public Void visitTry(TryTree tree, Void none) {
            mustNot(tree, "6: try");
            return super.visitTry(tree, none);
        }

        @Override
        public Void visitCatch(CatchTree tree, Void none) {
            mustNot(tree, "6: catch");
            return super.visitCatch(tree, none);
        }

        @Override
        public Void visitAssert(AssertTree tree, Void none) {
            mustNot(tree, "6: assert");
            return super.visitAssert(tree, none);
        }

        @Override
        public Void visitSynchronized(SynchronizedTree tree, Void none) {
            mustNot(tree, "6: synchronized");
            return super.visitSynchronized(tree, none);
        }

        @Override
        public Void visitLambdaExpression(LambdaExpressionTree tree, Void none) {
            mustNot(tree, "2: a lambda");
            return super.visitLambdaExpression(tree, none);
        }

        @Override
        public Void visitMemberReference(MemberReferenceTree tree, Void none) {
            mustNot(tree, "2: a method reference");
            return super.visitMemberReference(tree, none);
        }
    }
}
