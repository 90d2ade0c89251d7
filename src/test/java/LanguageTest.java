import com.sun.source.tree.AssertTree;
import com.sun.source.tree.ClassTree;
import com.sun.source.tree.CompilationUnitTree;
import com.sun.source.tree.ImportTree;
import com.sun.source.tree.InstanceOfTree;
import com.sun.source.tree.LambdaExpressionTree;
import com.sun.source.tree.LineMap;
import com.sun.source.tree.LiteralTree;
import com.sun.source.tree.MemberReferenceTree;
import com.sun.source.tree.MemberSelectTree;
import com.sun.source.tree.MethodTree;
import com.sun.source.tree.NewArrayTree;
import com.sun.source.tree.NewClassTree;
import com.sun.source.tree.SynchronizedTree;
import com.sun.source.tree.ThrowTree;
import com.sun.source.tree.Tree;
import com.sun.source.tree.TryTree;
import com.sun.source.tree.TypeCastTree;
import com.sun.source.tree.VariableTree;
import com.sun.source.tree.WhileLoopTree;
import com.sun.source.util.JavacTask;
import com.sun.source.util.SourcePositions;
import com.sun.source.util.TreeScanner;
import com.sun.source.util.Trees;
import java.io.File;
import java.lang.reflect.Constructor;
import java.lang.reflect.Field;
import java.lang.reflect.Method;
import java.lang.reflect.Modifier;
import java.util.List;
import java.util.Set;
import java.util.TreeSet;
import javax.lang.model.element.Name;
import javax.tools.JavaCompiler;
import javax.tools.StandardJavaFileManager;
import javax.tools.ToolProvider;

/** The face as the document prints it, and what the source can show of LANGUAGE.md's rules. */
public final class LanguageTest {
    private static final String SOURCE = "src/main/java/PaintersAtWall.java";
    private static final Set<String> FACE = Set.of("int write(int,long)", "int wipe()", "int fault()", "int lay()", "int stone(int,int)",
        "int touch(int,int)", "int may(int)", "int paint(int,int)", "int rain(int)", "int pass()", "int undo()", "int tell(int,int)",
        "int noRow()", "int judge()", "int ways()", "int fewest()", "int scrape(int)", "int matters()", "int beer(int)",
        "int white(int,int)", "int orders()", "int only(int)", "long odds(int,int)", "int evening(int,int)", "int keep()", "int back()",
        "int count(int)");
    private static final Set<String> LIBRARY = Set.of("Integer.bitCount", "Math.min", "Arrays.fill", "System.arraycopy");
    private static int wrong = 0;

    public static void main(String[] args) throws Exception {
        face();
        source();
        System.out.println(wrong == 0 ? "the face and the language are as told" : wrong + " breaches");
        if (wrong != 0) {
            System.exit(1);
        }
    }

    private static void breach(String what) {
        wrong++;
        System.out.println(what);
    }

    private static void face() throws Exception {
        Class<?> c = PaintersAtWall.class;
        if (!Modifier.isFinal(c.getModifiers()) || c.getPackage() != null && !c.getPackage().getName().isEmpty()) {
            breach("rule 1: the class is not final, or has a package");
        }
        Set<String> found = new TreeSet<>();
        for (Method m : c.getDeclaredMethods()) {
            if (Modifier.isPublic(m.getModifiers()) && !Modifier.isStatic(m.getModifiers())) {
                found.add(signature(m));
            } else if (!Modifier.isPrivate(m.getModifiers())) {
                breach("rule 1: " + m);
            }
            if (m.getExceptionTypes().length > 0) {
                breach("rule 6: " + m);
            }
        }
        if (!found.equals(new TreeSet<>(FACE))) {
            breach("rule 1: the public methods are " + found);
        }
        for (Constructor<?> k : c.getDeclaredConstructors()) {
            if (!Modifier.isPublic(k.getModifiers()) || k.getParameterCount() != 0) {
                breach("rule 1: " + k);
            }
        }
        String constants = "";
        for (Field f : c.getDeclaredFields()) {
            int m = f.getModifiers();
            if (Modifier.isPublic(m)) {
                constants += f.getName() + (Modifier.isStatic(m) && Modifier.isFinal(m) ? "=" + f.getInt(null) : "?") + " ";
            } else if (!Modifier.isPrivate(m)) {
                breach("rule 1: " + f);
            }
        }
        if (!constants.equals("BAD=-1 NO=-2 FULL=-3 NONE=-4 ")) {
            breach("rule 1: the constants are " + constants);
        }
    }

    private static String signature(Method m) {
        StringBuilder s = new StringBuilder(m.getReturnType().getName()).append(' ').append(m.getName()).append('(');
        for (int i = 0; i < m.getParameterCount(); i++) {
            s.append(i > 0 ? "," : "").append(m.getParameterTypes()[i].getName());
        }
        return s.append(')').toString();
    }

    private static void source() throws Exception {
        JavaCompiler javac = ToolProvider.getSystemJavaCompiler();
        try (StandardJavaFileManager files = javac.getStandardFileManager(null, null, null)) {
            JavacTask task = (JavacTask) javac.getTask(null, files, null, List.of("-proc:none"), null,
                files.getJavaFileObjects(new File(SOURCE)));
            for (CompilationUnitTree unit : task.parse()) {
                new Rules(unit, Trees.instance(task).getSourcePositions()).scan(unit, null);
            }
        }
    }

    private static final class Rules extends TreeScanner<Void, Void> {
        final CompilationUnitTree unit;
        final SourcePositions places;
        final LineMap lines;
        int classes = 0;
        int depth = 0;
        String method = "";

        Rules(CompilationUnitTree unit, SourcePositions places) {
            this.unit = unit;
            this.places = places;
            this.lines = unit.getLineMap();
        }

        long line(Tree t) {
            return lines.getLineNumber(places.getStartPosition(unit, t));
        }

        void breachAt(int rule, Tree t) {
            breach("rule " + rule + ", line " + line(t));
        }

        @Override
        public Void visitImport(ImportTree t, Void v) {
            if (!t.getQualifiedIdentifier().toString().equals("java.util.Arrays")) {
                breachAt(4, t);
            }
            return null;
        }

        @Override
        public Void visitClass(ClassTree t, Void v) {
            classes++;
            if (classes > 12) {
                breachAt(11, t);
            }
            if (depth > 0 && !t.getModifiers().getFlags().contains(javax.lang.model.element.Modifier.STATIC)) {
                breachAt(1, t);
            }
            int fields = 0;
            for (Tree member : t.getMembers()) {
                if (member instanceof VariableTree) {
                    Set<javax.lang.model.element.Modifier> flags = ((VariableTree) member).getModifiers().getFlags();
                    boolean isStatic = flags.contains(javax.lang.model.element.Modifier.STATIC);
                    fields += isStatic ? 0 : 1;
                    if (isStatic && !flags.contains(javax.lang.model.element.Modifier.FINAL)) {
                        breachAt(5, member);
                    }
                } else if (member.getKind() == Tree.Kind.BLOCK) {
                    breachAt(5, member);
                }
            }
            if (fields > 20) {
                breachAt(11, t);
            }
            depth++;
            super.visitClass(t, v);
            depth--;
            return null;
        }

        @Override
        public Void visitMethod(MethodTree t, Void v) {
            long length = lines.getLineNumber(places.getEndPosition(unit, t)) - line(t) + 1;
            if (t.getParameters().size() > 7 || length > 60) {
                breachAt(11, t);
            }
            if (depth > 1 || !t.getModifiers().getFlags().contains(javax.lang.model.element.Modifier.PUBLIC)) {
                for (String face : FACE) {
                    if (face.contains(" " + t.getName() + "(")) {
                        breachAt(1, t);
                    }
                }
            }
            String before = method;
            method = t.getName().toString();
            super.visitMethod(t, v);
            method = before;
            return null;
        }

        @Override
        public Void visitMemberSelect(MemberSelectTree t, Void v) {
            String owner = t.getExpression().toString();
            boolean library = Set.of("Integer", "Long", "Math", "Arrays", "System", "String", "Character", "Thread", "Runtime").contains(owner);
            if (library && !LIBRARY.contains(owner + "." + t.getIdentifier())) {
                breachAt(4, t);
            }
            Name name = t.getIdentifier();
            if (name.contentEquals("equals") || name.contentEquals("hashCode") || name.contentEquals("toString")
                || name.contentEquals("getClass")) {
                breachAt(6, t);
            }
            return super.visitMemberSelect(t, v);
        }

        @Override
        public Void visitNewClass(NewClassTree t, Void v) {
            if (!method.isEmpty() && !method.equals("<init>")) {
                breachAt(12, t);
            }
            return super.visitNewClass(t, v);
        }

        @Override
        public Void visitNewArray(NewArrayTree t, Void v) {
            if (!method.isEmpty() && !method.equals("<init>")) {
                breachAt(12, t);
            }
            return super.visitNewArray(t, v);
        }

        @Override
        public Void visitLambdaExpression(LambdaExpressionTree t, Void v) {
            breachAt(2, t);
            return null;
        }

        @Override
        public Void visitMemberReference(MemberReferenceTree t, Void v) {
            breachAt(2, t);
            return null;
        }

        @Override
        public Void visitTry(TryTree t, Void v) {
            breachAt(6, t);
            return null;
        }

        @Override
        public Void visitThrow(ThrowTree t, Void v) {
            breachAt(6, t);
            return null;
        }

        @Override
        public Void visitSynchronized(SynchronizedTree t, Void v) {
            breachAt(6, t);
            return null;
        }

        @Override
        public Void visitAssert(AssertTree t, Void v) {
            breachAt(6, t);
            return null;
        }

        @Override
        public Void visitInstanceOf(InstanceOfTree t, Void v) {
            breachAt(6, t);
            return null;
        }

        @Override
        public Void visitTypeCast(TypeCastTree t, Void v) {
            if (t.getType().getKind() != Tree.Kind.PRIMITIVE_TYPE) {
                breachAt(6, t);
            }
            return super.visitTypeCast(t, v);
        }

        @Override
        public Void visitLiteral(LiteralTree t, Void v) {
            if (t.getKind() == Tree.Kind.STRING_LITERAL || t.getKind() == Tree.Kind.NULL_LITERAL) {
                breachAt(3, t);
            }
            return null;
        }

        @Override
        public Void visitWhileLoop(WhileLoopTree t, Void v) {
            String condition = t.getCondition().toString();
            if (!condition.contains("<") && !condition.contains(">")) {
                breachAt(9, t);
            }
            return super.visitWhileLoop(t, v);
        }
    }
}
