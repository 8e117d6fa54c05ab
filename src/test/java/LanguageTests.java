import com.sun.source.tree.AssertTree;
import com.sun.source.tree.BinaryTree;
import com.sun.source.tree.ClassTree;
import com.sun.source.tree.CompilationUnitTree;
import com.sun.source.tree.ImportTree;
import com.sun.source.tree.LambdaExpressionTree;
import com.sun.source.tree.MemberReferenceTree;
import com.sun.source.tree.MethodInvocationTree;
import com.sun.source.tree.MethodTree;
import com.sun.source.tree.NewClassTree;
import com.sun.source.tree.SynchronizedTree;
import com.sun.source.tree.ThrowTree;
import com.sun.source.tree.Tree;
import com.sun.source.tree.TryTree;
import com.sun.source.tree.TypeCastTree;
import com.sun.source.tree.VariableTree;
import com.sun.source.tree.WhileLoopTree;
import com.sun.source.util.JavacTask;
import com.sun.source.util.SourcePositions;
import com.sun.source.util.TreePath;
import com.sun.source.util.TreePathScanner;
import com.sun.source.util.Trees;
import java.io.File;
import java.lang.reflect.Constructor;
import java.lang.reflect.Field;
import java.lang.reflect.Method;
import java.lang.reflect.Modifier;
import java.util.ArrayList;
import java.util.HashMap;
import java.util.HashSet;
import java.util.LinkedHashMap;
import java.util.List;
import java.util.Map;
import java.util.Set;
import java.util.TreeSet;
import javax.lang.model.element.Element;
import javax.lang.model.element.ElementKind;
import javax.lang.model.element.ExecutableElement;
import javax.tools.JavaCompiler;
import javax.tools.StandardJavaFileManager;
import javax.tools.ToolProvider;

/** The public face, and what LANGUAGE.md asks for that can be read off the source. */
public final class LanguageTests {
    private static final String SOURCE = "src/main/java/RugReader.java";
    private static final Set<String> LIBRARY = Set.of("java.lang.Math.min", "java.lang.Math.max", "java.lang.Math.abs",
            "java.lang.Math.floorMod", "java.lang.Integer.bitCount", "java.lang.System.arraycopy",
            "java.lang.String.length", "java.lang.String.charAt");
    private static final String FACE = "feed(int,int,int,int,int)int end(int)boolean house()int fault()int "
            + "person(int,int)int tuft(int,int)int way(int,int)int goes(int,int,int)int days(int)int beat(int,int)int "
            + "undo()int hidden(int)int missing(int)int soles(int)int deepest()int who(int)int age(int,int)int "
            + "readings()int read(int,int)int fewest()int sign(int,int,int)int steps(int,int,int)int walk()int "
            + "walked(int)int seen(int,int)int lay(int)int spot()int ways(int)int both(int,int)int "
            + "years(int,int,int)int rarest()int sentence()int said(int)int "
            + "image(int)boolean restore(int)boolean count(int)int";
    private static int passed = 0;
    private static int failed = 0;

    public static void main(String[] args) throws Exception {
        face();
        source();
        System.out.println(passed + " passed, " + failed + " failed");
        System.exit(failed == 0 ? 0 : 1);
    }

    private static void is(String what, Object got, Object due) {
        if (got.equals(due)) {
            passed++;
        } else {
            failed++;
            System.out.println(what + ": " + got + ", due is " + due);
        }
    }

    private static boolean hides(int modifiers) {
        return Modifier.isPrivate(modifiers);
    }

    private static void face() {
        Set<String> got = new TreeSet<>();
        for (Method m : RugReader.class.getDeclaredMethods()) {
            if (!hides(m.getModifiers()) && !m.isSynthetic()) {
                List<String> of = new ArrayList<>();
                for (Class<?> c : m.getParameterTypes()) {
                    of.add(c.getName());
                }
                got.add(m.getName() + "(" + String.join(",", of) + ")" + m.getReturnType());
                is(m.getName() + " is public alone", m.getModifiers(), Modifier.PUBLIC);
                boolean throwing = m.getName().equals("person") || m.getName().equals("tuft");
                is(m.getName() + " throws", m.getExceptionTypes().length, throwing ? 1 : 0);
            }
        }
        is("the face", got, new TreeSet<>(List.of(FACE.split(" "))));
        Set<String> fields = new TreeSet<>();
        for (Field f : RugReader.class.getDeclaredFields()) {
            if (!hides(f.getModifiers())) {
                fields.add(Modifier.toString(f.getModifiers()) + " " + f.getType() + " " + f.getName());
            }
        }
        is("the constants", fields, Set.of("public static final int NONE"));
        is("NONE", RugReader.NONE, -1);
        is("the class", RugReader.class.getModifiers(), Modifier.PUBLIC | Modifier.FINAL);
        Constructor<?>[] made = RugReader.class.getDeclaredConstructors();
        is("constructors", made.length, 1);
        is("the constructor", made[0].getModifiers() + " " + made[0].getParameterCount(), Modifier.PUBLIC + " 0");
    }

    private static void source() throws Exception {
        JavaCompiler javac = ToolProvider.getSystemJavaCompiler();
        try (StandardJavaFileManager files = javac.getStandardFileManager(null, null, null)) {
            JavacTask task = (JavacTask) javac.getTask(null, files, null, List.of("-proc:none"), null,
                    files.getJavaFileObjects(new File(SOURCE)));
            CompilationUnitTree unit = task.parse().iterator().next();
            task.analyze();
            Reader r = new Reader(Trees.instance(task), unit);
            r.scan(unit, null);
            is("what is outside LANGUAGE.md", r.outside, List.of());
            is("classes, twelve at most: " + r.classes, r.classes <= 12, true);
            r.depths();
        }
    }

    /** Reads the source over, and keeps what is outside the rules and who calls whom. */
    private static final class Reader extends TreePathScanner<Void, Void> {
        private final Trees trees;
        private final CompilationUnitTree unit;
        private final SourcePositions where;
        private final List<String> outside = new ArrayList<>();
        private final Map<String, Set<String>> calls = new LinkedHashMap<>();
        private final Set<String> opening = new HashSet<>();
        private int classes = 0;
        private String method = "";

        Reader(Trees trees, CompilationUnitTree unit) {
            this.trees = trees;
            this.unit = unit;
            this.where = trees.getSourcePositions();
        }

        private long line(long position) {
            return unit.getLineMap().getLineNumber(position);
        }

        private void bad(String rule, Tree at) {
            outside.add("rule " + rule + " at line " + line(where.getStartPosition(unit, at)));
        }

        @Override
        public Void visitImport(ImportTree t, Void v) {
            if (!t.getQualifiedIdentifier().toString().equals("java.util.NoSuchElementException")) {
                bad("4", t);
            }
            return super.visitImport(t, v);
        }

        @Override
        public Void visitClass(ClassTree t, Void v) {
            classes++;
            boolean inside = getCurrentPath().getParentPath().getLeaf() instanceof ClassTree;
            String flags = t.getModifiers().getFlags().toString();
            boolean isEnum = t.getKind() == Tree.Kind.ENUM;
            if (inside && (!flags.contains("private") || !isEnum && !flags.contains("static"))) {
                bad("1", t);
            }
            int fields = 0;
            for (Tree member : t.getMembers()) {
                if (member instanceof VariableTree f && !isStatic(f) && !isConstantOf(member, t)) {
                    fields++;
                }
                if (member.getKind() == Tree.Kind.BLOCK) {
                    bad("5", member);
                }
            }
            if (fields > 20) {
                bad("11: fields", t);
            }
            return super.visitClass(t, v);
        }

        private boolean isConstantOf(Tree member, ClassTree t) {
            Element e = trees.getElement(new TreePath(getCurrentPath(), member));
            return e != null && e.getKind() == ElementKind.ENUM_CONSTANT;
        }

        private static boolean isStatic(VariableTree f) {
            return f.getModifiers().getFlags().toString().contains("static");
        }

        @Override
        public Void visitVariable(VariableTree t, Void v) {
            if (isStatic(t) && !t.getModifiers().getFlags().toString().contains("final")) {
                bad("5", t);
            }
            return super.visitVariable(t, v);
        }

        @Override
        public Void visitMethod(MethodTree t, Void v) {
            String owner = ((ClassTree) getCurrentPath().getParentPath().getLeaf()).getSimpleName().toString();
            String name = t.getName().toString();
            String was = method;
            method = owner + "." + name;
            calls.computeIfAbsent(method, k -> new HashSet<>());
            boolean isPublic = t.getModifiers().getFlags().toString().contains("public");
            if (isPublic) {
                opening.add(method);
                if (!owner.equals("RugReader")) {
                    bad("1: public", t);
                }
            } else if ((" " + FACE).contains(" " + name + "(")) {
                bad("1: a name of the face", t);
            }
            if (t.getParameters().size() > 7) {
                bad("11: parameters", t);
            }
            long from = where.getStartPosition(unit, t);
            long to = where.getEndPosition(unit, t);
            if (to >= 0 && line(to) - line(from) >= 60) {
                bad("11: a long method", t);
            }
            super.visitMethod(t, v);
            method = was;
            return null;
        }

        @Override
        public Void visitMethodInvocation(MethodInvocationTree t, Void v) {
            Element e = trees.getElement(getCurrentPath());
            if (e instanceof ExecutableElement) {
                String owner = e.getEnclosingElement().toString();
                String name = e.getSimpleName().toString();
                boolean own = owner.startsWith("RugReader");
                if (own) {
                    calls.computeIfAbsent(method, k -> new HashSet<>())
                            .add(owner.substring(owner.lastIndexOf('.') + 1) + "." + name);
                } else if (!LIBRARY.contains(owner + "." + name) && !name.equals("<init>")) {
                    bad("4: " + owner + "." + name, t);
                }
            }
            return super.visitMethodInvocation(t, v);
        }

        @Override
        public Void visitTry(TryTree t, Void v) {
            bad("6: try", t);
            return super.visitTry(t, v);
        }

        @Override
        public Void visitThrow(ThrowTree t, Void v) {
            boolean known = t.getExpression() instanceof NewClassTree n
                    && n.getIdentifier().toString().equals("NoSuchElementException")
                    && (method.equals("RugReader.person") || method.equals("RugReader.tuft"));
            if (!known) {
                bad("6: throw", t);
            }
            return super.visitThrow(t, v);
        }

        @Override
        public Void visitLambdaExpression(LambdaExpressionTree t, Void v) {
            bad("2", t);
            return super.visitLambdaExpression(t, v);
        }

        @Override
        public Void visitMemberReference(MemberReferenceTree t, Void v) {
            bad("2", t);
            return super.visitMemberReference(t, v);
        }

        @Override
        public Void visitSynchronized(SynchronizedTree t, Void v) {
            bad("6", t);
            return super.visitSynchronized(t, v);
        }

        @Override
        public Void visitAssert(AssertTree t, Void v) {
            bad("6", t);
            return super.visitAssert(t, v);
        }

        @Override
        public Void visitNewClass(NewClassTree t, Void v) {
            // Rows and objects are made once, in fields and constructors: nothing but an exception is made by a call.
            boolean made = method.isEmpty() || method.endsWith(".<init>");
            if (!made && !t.getIdentifier().toString().equals("NoSuchElementException")) {
                bad("12: made by a call", t);
            }
            return super.visitNewClass(t, v);
        }

        @Override
        public Void visitNewArray(com.sun.source.tree.NewArrayTree t, Void v) {
            if (!method.isEmpty() && !method.endsWith(".<init>")) {
                bad("12: made by a call", t);
            }
            return super.visitNewArray(t, v);
        }

        @Override
        public Void visitWhileLoop(WhileLoopTree t, Void v) {
            if (t.getCondition().toString().equals("(true)")) {
                bad("9", t);
            }
            return super.visitWhileLoop(t, v);
        }

        @Override
        public Void visitBinary(BinaryTree t, Void v) {
            boolean text = t.getLeftOperand().getKind() == Tree.Kind.STRING_LITERAL
                    || t.getRightOperand().getKind() == Tree.Kind.STRING_LITERAL;
            if (text) {
                bad("10", t);
            }
            boolean divides = t.getKind() == Tree.Kind.DIVIDE || t.getKind() == Tree.Kind.REMAINDER;
            String by = t.getRightOperand().toString();
            if (divides && !by.matches("[1-9][0-9]*|[A-Z_]+|heavy|n")) {
                bad("7: a divisor to look at: " + by, t);
            }
            return super.visitBinary(t, v);
        }

        @Override
        public Void visitTypeCast(TypeCastTree t, Void v) {
            if (!t.getType().toString().equals("int")) {
                bad("6: a cast to look at", t);
            }
            return super.visitTypeCast(t, v);
        }

        /** The calls that stand open at once: eight deep, those that call themselves left out. */
        void depths() {
            Set<String> again = new TreeSet<>();
            for (String m : calls.keySet()) {
                if (reaches(m, m, new HashSet<>())) {
                    again.add(m);
                }
            }
            is("who calls itself", again,
                    Set.of("Sentence.takeCond", "Sentence.takeAll", "Sentence.takeOne", "Readings.settle"));
            Map<String, Integer> known = new HashMap<>();
            for (String m : opening) {
                int deep = depth(m, again, known, new HashSet<>());
                is(m + " calls eight deep at most: " + deep, deep <= 8, true);
            }
        }

        private boolean reaches(String from, String to, Set<String> met) {
            for (String next : calls.getOrDefault(from, Set.of())) {
                if (next.equals(to) || met.add(next) && reaches(next, to, met)) {
                    return true;
                }
            }
            return false;
        }

        private int depth(String m, Set<String> again, Map<String, Integer> known, Set<String> open) {
            if (known.containsKey(m)) {
                return known.get(m);
            }
            int most = 0;
            open.add(m);
            for (String next : calls.getOrDefault(m, Set.of())) {
                if (!open.contains(next)) {
                    most = Math.max(most, depth(next, again, known, open));
                }
            }
            open.remove(m);
            int deep = most + (again.contains(m) ? 0 : 1);
            if (open.stream().noneMatch(again::contains)) {
                known.put(m, deep);
            }
            return deep;
        }
    }
}
