import com.sun.source.tree.AnnotationTree;
import com.sun.source.tree.AssertTree;
import com.sun.source.tree.BinaryTree;
import com.sun.source.tree.CatchTree;
import com.sun.source.tree.ClassTree;
import com.sun.source.tree.CompilationUnitTree;
import com.sun.source.tree.ImportTree;
import com.sun.source.tree.LambdaExpressionTree;
import com.sun.source.tree.LineMap;
import com.sun.source.tree.MemberReferenceTree;
import com.sun.source.tree.MemberSelectTree;
import com.sun.source.tree.MethodInvocationTree;
import com.sun.source.tree.MethodTree;
import com.sun.source.tree.NewClassTree;
import com.sun.source.tree.PackageTree;
import com.sun.source.tree.SynchronizedTree;
import com.sun.source.tree.ThrowTree;
import com.sun.source.tree.Tree;
import com.sun.source.tree.TryTree;
import com.sun.source.tree.VariableTree;
import com.sun.source.util.JavacTask;
import com.sun.source.util.SourcePositions;
import com.sun.source.util.TreePathScanner;
import com.sun.source.util.TreeScanner;
import com.sun.source.util.Trees;
import java.io.File;
import java.lang.reflect.Constructor;
import java.lang.reflect.Field;
import java.lang.reflect.Method;
import java.lang.reflect.Modifier;
import java.nio.charset.StandardCharsets;
import java.nio.file.Files;
import java.util.ArrayList;
import java.util.HashMap;
import java.util.HashSet;
import java.util.LinkedHashMap;
import java.util.LinkedHashSet;
import java.util.List;
import java.util.Map;
import java.util.Set;
import java.util.TreeSet;
import java.util.function.Supplier;
import javax.lang.model.element.Element;
import javax.lang.model.element.Name;
import javax.tools.JavaCompiler;
import javax.tools.StandardJavaFileManager;
import javax.tools.ToolProvider;

/** The face of the document, and the rules of LANGUAGE.md that can be looked up in the source. */
public final class LanguageTest {
    private static final String[] FACE = {
        "boolean light(int,int,int,int)", "int row(int,int,int,long)", "int at(int,int,int)", "boolean copy(int,int)",
        "int shadow(int,int,int,int,int,int)", "int shine(int)", "int lamps(int,int)", "int fight(int,int)", "int suns(int,int)",
        "int line(int,int,int,int)", "int meet(int,int)", "int rough(int,int,int,int,int)", "int grain(int,int,int)",
        "int squares(int,int,int,int,int,boolean)", "int twice(int,int,int,int)", "int two(int,int,int)",
        "int feed(int,int,int,int,int)", "int end(int)", "int text()", "int fault(int)", "int act(int,int)",
        "int story(int,int,int)", "boolean maker(int,int)", "boolean habit(int,int,int)", "boolean wane(int)",
        "int odds(int,int,int)", "int say(int,int,int,int)", "int image()", "int back()", "int about(int)"};
    private static final Set<String> LIBRARY = Set.of(
        "Math.max", "Math.min", "Math.abs", "Math.floorDiv", "Math.floorMod", "Integer.bitCount", "System.arraycopy");
    private static final int MOST_CLASSES = 12;
    private static final int MOST_FIELDS = 20;
    private static final int MOST_LINES = 60;
    private static final int MOST_PARAMETERS = 7;
    private static final int MOST_DEEP = 8;

    private static final Due DUE = new Due("language");

    public static void main(String[] args) throws Exception {
        face();
        nested();
        File source = new File(args.length > 0 ? args[0] : "src/main/java/TwoSuns.java");
        signs(Files.readAllBytes(source.toPath()));
        scan(source);
        DUE.finish();
    }

    private static void face() {
        Set<String> want = new TreeSet<>(List.of(FACE));
        Set<String> got = new TreeSet<>();
        Set<String> publicNames = new HashSet<>();
        for (Method m : TwoSuns.class.getDeclaredMethods()) {
            if (Modifier.isPublic(m.getModifiers())) {
                got.add(shown(m));
                publicNames.add(m.getName());
            }
        }
        DUE.holds("the face is " + got, got.equals(want));
        for (Method m : TwoSuns.class.getDeclaredMethods()) {
            boolean open = Modifier.isPublic(m.getModifiers());
            DUE.holds(m + " is private or of the face", open || Modifier.isPrivate(m.getModifiers()) || m.isSynthetic());
            DUE.holds(m + " bears no public name", open || !publicNames.contains(m.getName()));
            DUE.holds(m + " is no static one of the face", !open || !Modifier.isStatic(m.getModifiers()));
        }
        DUE.holds("the class is final", Modifier.isFinal(TwoSuns.class.getModifiers()));
        Constructor<?>[] constructors = TwoSuns.class.getDeclaredConstructors();
        DUE.due("constructors", constructors.length, 1);
        DUE.holds("it is public", Modifier.isPublic(constructors[0].getModifiers()));
        for (Field f : TwoSuns.class.getDeclaredFields()) {
            DUE.holds(f + " is private or NONE", Modifier.isPrivate(f.getModifiers()) || f.getName().equals("NONE"));
        }
    }

    private static String shown(Method m) {
        StringBuilder s = new StringBuilder(m.getReturnType() + " " + m.getName() + "(");
        for (int i = 0; i < m.getParameterCount(); i++) {
            s.append(i > 0 ? "," : "").append(m.getParameterTypes()[i]);
        }
        return s.append(")").toString();
    }

    private static void nested() {
        Set<String> publicNames = new HashSet<>();
        for (String method : FACE) {
            publicNames.add(method.substring(method.indexOf(' ') + 1, method.indexOf('(')));
        }
        for (Class<?> c : TwoSuns.class.getDeclaredClasses()) {
            DUE.holds(c + " is static", Modifier.isStatic(c.getModifiers()));
            DUE.holds(c + " is not of the face", !Modifier.isPublic(c.getModifiers()) && !Modifier.isProtected(c.getModifiers()));
            for (Method m : c.getDeclaredMethods()) {
                DUE.holds(m + " bears no public name", !publicNames.contains(m.getName()));
            }
        }
        DUE.holds("classes", TwoSuns.class.getDeclaredClasses().length + 1 <= MOST_CLASSES);
    }

    private static void signs(byte[] source) {
        for (byte b : source) {
            if (b != '\n' && (b < 32 || b > 126)) {
                DUE.holds("sign " + b + " in the source", false);
            }
        }
        String text = new String(source, StandardCharsets.US_ASCII);
        DUE.holds("no tab, no trailing blank", !text.contains(" \n"));
    }

    private static void scan(File source) throws Exception {
        JavaCompiler compiler = ToolProvider.getSystemJavaCompiler();
        try (StandardJavaFileManager files = compiler.getStandardFileManager(null, null, null)) {
            JavacTask task = (JavacTask) compiler.getTask(null, files, null, null, null, files.getJavaFileObjects(source));
            Iterable<? extends CompilationUnitTree> units = task.parse();
            task.analyze();
            Calls calls = new Calls(Trees.instance(task));
            for (CompilationUnitTree unit : units) {
                new Rules(unit, Trees.instance(task).getSourcePositions()).scan(unit, null);
                calls.scan(unit, null);
            }
            calls.judge();
        }
    }

    /** Which method of the source calls which, and how deep that goes where it is no recursion. */
    private static final class Calls extends TreePathScanner<Void, Void> {
        private final Trees trees;
        private final Map<Element, Set<Element>> calls = new LinkedHashMap<>();
        private final Map<Element, Set<Element>> reached = new HashMap<>();
        private Element inside;

        Calls(Trees trees) {
            this.trees = trees;
        }

        @Override
        public Void visitMethod(MethodTree t, Void v) {
            inside = trees.getElement(getCurrentPath());
            calls.putIfAbsent(inside, new LinkedHashSet<>());
            return super.visitMethod(t, v);
        }

        @Override
        public Void visitMethodInvocation(MethodInvocationTree t, Void v) {
            return called(trees.getElement(getCurrentPath()), () -> super.visitMethodInvocation(t, v));
        }

        @Override
        public Void visitNewClass(NewClassTree t, Void v) {
            return called(trees.getElement(getCurrentPath()), () -> super.visitNewClass(t, v));
        }

        private Void called(Element method, Supplier<Void> further) {
            if (inside != null && method != null) {
                calls.get(inside).add(method);
            }
            return further.get();
        }

        void judge() {
            for (Element method : calls.keySet()) {
                int deep = deepFrom(method);
                DUE.holds(method + " goes " + deep + " calls deep", deep <= MOST_DEEP);
            }
        }

        private Set<Element> reachedFrom(Element method) {
            Set<Element> all = reached.get(method);
            if (all == null) {
                all = new LinkedHashSet<>();
                reached.put(method, all);
                List<Element> left = new ArrayList<>(calls.getOrDefault(method, Set.of()));
                while (!left.isEmpty()) {
                    Element next = left.remove(left.size() - 1);
                    if (calls.containsKey(next) && all.add(next)) {
                        left.addAll(calls.get(next));
                    }
                }
            }
            return all;
        }

        /** Methods that call one another in a ring count as one. */
        private int deepFrom(Element method) {
            Set<Element> ring = new LinkedHashSet<>(Set.of(method));
            for (Element other : reachedFrom(method)) {
                if (reachedFrom(other).contains(method)) {
                    ring.add(other);
                }
            }
            int deepest = 0;
            for (Element member : ring) {
                for (Element next : calls.get(member)) {
                    if (calls.containsKey(next) && !ring.contains(next)) {
                        deepest = Math.max(deepest, deepFrom(next));
                    }
                }
            }
            return deepest + 1;
        }
    }

    /** One walk over the source; each finding is told with its line. */
    private static final class Rules extends TreeScanner<Void, Void> {
        private final CompilationUnitTree unit;
        private final SourcePositions positions;
        private final LineMap lines;
        private final List<Name> inMethods = new ArrayList<>();

        Rules(CompilationUnitTree unit, SourcePositions positions) {
            this.unit = unit;
            this.positions = positions;
            lines = unit.getLineMap();
        }

        private long lineOf(Tree tree) {
            return lines.getLineNumber(positions.getStartPosition(unit, tree));
        }

        private Void refuse(Tree tree, String why) {
            DUE.holds("line " + lineOf(tree) + ": " + why, false);
            return null;
        }

        @Override
        public Void visitPackage(PackageTree t, Void v) {
            return refuse(t, "a package line");
        }

        @Override
        public Void visitImport(ImportTree t, Void v) {
            return refuse(t, "an import");
        }

        @Override
        public Void visitAnnotation(AnnotationTree t, Void v) {
            return refuse(t, "an annotation");
        }

        @Override
        public Void visitThrow(ThrowTree t, Void v) {
            return refuse(t, "throw");
        }

        @Override
        public Void visitTry(TryTree t, Void v) {
            return refuse(t, "try");
        }

        @Override
        public Void visitCatch(CatchTree t, Void v) {
            return refuse(t, "catch");
        }

        @Override
        public Void visitSynchronized(SynchronizedTree t, Void v) {
            return refuse(t, "synchronized");
        }

        @Override
        public Void visitAssert(AssertTree t, Void v) {
            return refuse(t, "assert");
        }

        @Override
        public Void visitLambdaExpression(LambdaExpressionTree t, Void v) {
            return refuse(t, "a lambda");
        }

        @Override
        public Void visitMemberReference(MemberReferenceTree t, Void v) {
            return refuse(t, "a method reference");
        }

        @Override
        public Void visitClass(ClassTree t, Void v) {
            int fields = 0;
            DUE.holds(t.getSimpleName() + " stands in no method", inMethods.isEmpty());
            for (Tree member : t.getMembers()) {
                if (member.getKind() == Tree.Kind.BLOCK) {
                    refuse(member, "an initialiser block");
                }
                if (member instanceof VariableTree field) {
                    boolean fixed = field.getModifiers().getFlags().contains(javax.lang.model.element.Modifier.STATIC);
                    boolean last = field.getModifiers().getFlags().contains(javax.lang.model.element.Modifier.FINAL);
                    DUE.holds(field.getName() + " is final if static", !fixed || last);
                    fields += fixed ? 0 : 1;
                }
            }
            DUE.holds(t.getSimpleName() + " has few fields: " + fields, fields <= MOST_FIELDS);
            return super.visitClass(t, v);
        }

        @Override
        public Void visitMethod(MethodTree t, Void v) {
            long first = lineOf(t);
            long last = lines.getLineNumber(positions.getEndPosition(unit, t));
            DUE.holds(t.getName() + " is short", last - first + 1 <= MOST_LINES);
            DUE.holds(t.getName() + " takes few", t.getParameters().size() <= MOST_PARAMETERS);
            inMethods.add(t.getName());
            super.visitMethod(t, v);
            inMethods.remove(inMethods.size() - 1);
            return null;
        }

        @Override
        public Void visitMethodInvocation(MethodInvocationTree t, Void v) {
            if (t.getMethodSelect() instanceof MemberSelectTree select) {
                String on = select.getExpression().toString();
                if (Character.isUpperCase(on.charAt(0))) {
                    DUE.holds(select + " is of the library that there is", LIBRARY.contains(select.toString()));
                }
            }
            return super.visitMethodInvocation(t, v);
        }

        @Override
        public Void visitBinary(BinaryTree t, Void v) {
            boolean texts = t.getLeftOperand().getKind() == Tree.Kind.STRING_LITERAL
                || t.getRightOperand().getKind() == Tree.Kind.STRING_LITERAL;
            DUE.holds("no text in " + t, !texts);
            return super.visitBinary(t, v);
        }
    }
}
