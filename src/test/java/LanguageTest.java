import com.sun.source.tree.AssertTree;
import com.sun.source.tree.BinaryTree;
import com.sun.source.tree.ClassTree;
import com.sun.source.tree.CompilationUnitTree;
import com.sun.source.tree.ImportTree;
import com.sun.source.tree.LambdaExpressionTree;
import com.sun.source.tree.MemberReferenceTree;
import com.sun.source.tree.MethodInvocationTree;
import com.sun.source.tree.MethodTree;
import com.sun.source.tree.NewClassTree;
import com.sun.source.tree.SynchronizedTree;
import com.sun.source.tree.ThrowTree;
import com.sun.source.tree.Tree;
import com.sun.source.tree.TryTree;
import com.sun.source.tree.VariableTree;
import com.sun.source.util.JavacTask;
import com.sun.source.util.SourcePositions;
import com.sun.source.util.TreePathScanner;
import com.sun.source.util.Trees;
import java.io.File;
import java.util.ArrayList;
import java.util.Arrays;
import java.util.HashSet;
import java.util.LinkedHashMap;
import java.util.List;
import java.util.Map;
import java.util.Set;
import java.util.TreeSet;
import javax.lang.model.element.Element;
import javax.lang.model.element.ElementKind;
import javax.lang.model.element.Modifier;
import javax.tools.JavaCompiler;
import javax.tools.StandardJavaFileManager;
import javax.tools.ToolProvider;

/** Looks at the source for what LANGUAGE.md rules out, as far as a tree of it shows that. */
public final class LanguageTest {
    private static final Set<String> FACE = new TreeSet<>(Arrays.asList(("feed end city fault has letter lane sound "
            + "saint go rest clear undo where on petals passes clash clashes meet pleased but words softer shut sweep "
            + "routes route together bars take mend turn lots dawn image octet back").split(" ")));
    private static final Set<String> LIBRARY = new HashSet<>(Arrays.asList(
            "java.lang.String.charAt", "java.lang.String.length", "java.lang.Math.min", "java.lang.Math.max",
            "java.lang.Math.floorDiv", "java.lang.Integer.bitCount", "java.lang.Long.numberOfTrailingZeros",
            "java.lang.System.arraycopy", "java.util.Arrays.fill"));
    private static final Set<String> STATICS = new HashSet<>(Arrays.asList(
            "int", "long", "boolean", "char", "java.lang.String", "int[]", "long[]", "char[]", "byte[]"));

    private static int wrong = 0;
    private static final Map<String, Set<String>> calls = new LinkedHashMap<>();

    private static void bad(String what) {
        wrong++;
        System.out.println(what);
    }

    private static final class Looker extends TreePathScanner<Void, Void> {
        final Trees trees;
        final CompilationUnitTree unit;
        final SourcePositions places;
        String method = "";
        int classes;

        Looker(Trees trees, CompilationUnitTree unit) {
            this.trees = trees;
            this.unit = unit;
            places = trees.getSourcePositions();
        }

        private long line(long position) {
            return unit.getLineMap().getLineNumber(position);
        }

        private String at(Tree tree) {
            return " in line " + line(places.getStartPosition(unit, tree));
        }

        @Override
        public Void visitImport(ImportTree tree, Void v) {
            if (!tree.getQualifiedIdentifier().toString().equals("java.util.Arrays")) {
                bad("an import" + at(tree));
            }
            return super.visitImport(tree, v);
        }

        @Override
        public Void visitClass(ClassTree tree, Void v) {
            classes++;
            Set<Modifier> modifiers = tree.getModifiers().getFlags();
            boolean top = tree.getSimpleName().contentEquals("NineSaints");
            if (tree.getSimpleName().length() == 0 || !modifiers.contains(Modifier.FINAL)
                    || top != modifiers.contains(Modifier.PUBLIC) || top == modifiers.contains(Modifier.STATIC)) {
                bad("a class " + tree.getSimpleName() + at(tree));
            }
            int fields = 0;
            for (Tree member : tree.getMembers()) {
                if (member instanceof VariableTree) {
                    VariableTree field = (VariableTree) member;
                    Set<Modifier> flags = field.getModifiers().getFlags();
                    fields += flags.contains(Modifier.STATIC) ? 0 : 1;
                    if (flags.contains(Modifier.STATIC) && (!flags.contains(Modifier.FINAL)
                            || !STATICS.contains(field.getType().toString().replace("String", "java.lang.String")))) {
                        bad("a static field " + field.getName() + at(field));
                    }
                    boolean named = field.getName().contentEquals("NONE");
                    if (top && flags.contains(Modifier.PUBLIC) != named || top && !named
                            && !flags.contains(Modifier.PRIVATE)) {
                        bad("a field that is seen " + field.getName() + at(field));
                    }
                }
                if (member.getKind() == Tree.Kind.BLOCK) {
                    bad("an initialiser" + at(member));
                }
            }
            if (fields > 20) {
                bad(fields + " fields in " + tree.getSimpleName());
            }
            return super.visitClass(tree, v);
        }

        @Override
        public Void visitMethod(MethodTree tree, Void v) {
            Element element = trees.getElement(getCurrentPath());
            String owner = element.getEnclosingElement().getSimpleName().toString();
            String name = tree.getName().toString();
            boolean face = owner.equals("NineSaints") && element.getModifiers().contains(Modifier.PUBLIC);
            boolean made = element.getKind() == ElementKind.CONSTRUCTOR;
            if (!made && face != FACE.contains(name)) {
                bad("a method by the name " + name + at(tree));
            }
            if (owner.equals("NineSaints") && !face && !element.getModifiers().contains(Modifier.PRIVATE)) {
                bad("a method that is seen " + name + at(tree));
            }
            if (tree.getParameters().size() > 7) {
                bad("too many parameters" + at(tree));
            }
            long length = line(places.getEndPosition(unit, tree)) - line(places.getStartPosition(unit, tree)) + 1;
            if (length > 60) {
                bad(length + " lines" + at(tree));
            }
            String before = method;
            method = owner + "." + name;
            calls.computeIfAbsent(method, key -> new TreeSet<>());
            super.visitMethod(tree, v);
            method = before;
            return null;
        }

        @Override
        public Void visitMethodInvocation(MethodInvocationTree tree, Void v) {
            Element element = trees.getElement(getCurrentPath());
            Element owner = element.getEnclosingElement();
            String full = owner + "." + element.getSimpleName();
            if (full.startsWith("java.")) {
                if (!LIBRARY.contains(full) && element.getKind() != ElementKind.CONSTRUCTOR) {
                    bad(full + at(tree));
                }
            } else if (!method.isEmpty()) {
                calls.computeIfAbsent(method, key -> new TreeSet<>())
                        .add(owner.getSimpleName() + "." + element.getSimpleName());
            }
            return super.visitMethodInvocation(tree, v);
        }

        @Override
        public Void visitNewClass(NewClassTree tree, Void v) {
            Element element = trees.getElement(getCurrentPath());
            if (tree.getClassBody() != null || element.getEnclosingElement().toString().startsWith("java.")) {
                bad("a new " + element.getEnclosingElement() + at(tree));
            }
            return super.visitNewClass(tree, v);
        }

        @Override
        public Void visitBinary(BinaryTree tree, Void v) {
            if (tree.getKind() == Tree.Kind.PLUS && trees.getTypeMirror(getCurrentPath()).toString().endsWith("String")) {
                bad("texts joined by +" + at(tree));
            }
            return super.visitBinary(tree, v);
        }

        @Override
        public Void visitLambdaExpression(LambdaExpressionTree tree, Void v) {
            bad("a lambda" + at(tree));
            return null;
        }

        @Override
        public Void visitMemberReference(MemberReferenceTree tree, Void v) {
            bad("a method reference" + at(tree));
            return null;
        }

        @Override
        public Void visitTry(TryTree tree, Void v) {
            bad("a try" + at(tree));
            return null;
        }

        @Override
        public Void visitThrow(ThrowTree tree, Void v) {
            bad("a throw" + at(tree));
            return null;
        }

        @Override
        public Void visitAssert(AssertTree tree, Void v) {
            bad("an assert" + at(tree));
            return null;
        }

        @Override
        public Void visitSynchronized(SynchronizedTree tree, Void v) {
            bad("a synchronized" + at(tree));
            return null;
        }
    }

    /** The longest row of calls in which no method stands twice: recursion counts once round. */
    private static List<String> deepest(String method, List<String> open) {
        List<String> best = new ArrayList<>(open);
        if (open.contains(method)) {
            return best;
        }
        open.add(method);
        best.add(method);
        for (String called : calls.getOrDefault(method, new TreeSet<>())) {
            List<String> row = deepest(called, open);
            if (row.size() > best.size()) {
                best = row;
            }
        }
        open.remove(open.size() - 1);
        return best;
    }

    public static void main(String[] args) throws Exception {
        JavaCompiler compiler = ToolProvider.getSystemJavaCompiler();
        StandardJavaFileManager files = compiler.getStandardFileManager(null, null, null);
        JavacTask task = (JavacTask) compiler.getTask(null, files, null, Arrays.asList("-proc:none"), null,
                files.getJavaFileObjects(new File("src/main/java/NineSaints.java")));
        CompilationUnitTree unit = task.parse().iterator().next();
        task.analyze();
        Looker looker = new Looker(Trees.instance(task), unit);
        looker.scan(unit, null);
        if (looker.classes > 12) {
            bad(looker.classes + " classes");
        }
        int deepest = 0;
        for (String method : calls.keySet()) {
            List<String> row = deepest(method, new ArrayList<>());
            deepest = Math.max(deepest, row.size());
            if (row.size() > 8) {
                bad(row.size() + " calls deep: " + row);
            }
        }
        System.out.println(looker.classes + " classes, calls " + deepest + " deep");
        System.exit(wrong == 0 ? 0 : 1);
    }
}
