import com.sun.source.tree.BinaryTree;
import com.sun.source.tree.ClassTree;
import com.sun.source.tree.CompilationUnitTree;
import com.sun.source.tree.CompoundAssignmentTree;
import com.sun.source.tree.ExpressionTree;
import com.sun.source.tree.ForLoopTree;
import com.sun.source.tree.IdentifierTree;
import com.sun.source.tree.LineMap;
import com.sun.source.tree.MemberSelectTree;
import com.sun.source.tree.MethodInvocationTree;
import com.sun.source.tree.MethodTree;
import com.sun.source.tree.NewArrayTree;
import com.sun.source.tree.NewClassTree;
import com.sun.source.tree.Tree;
import com.sun.source.tree.TypeCastTree;
import com.sun.source.tree.VariableTree;
import com.sun.source.util.JavacTask;
import com.sun.source.util.SourcePositions;
import com.sun.source.util.TreeScanner;
import com.sun.source.util.Trees;
import java.io.IOException;
import java.lang.reflect.Constructor;
import java.lang.reflect.Field;
import java.lang.reflect.Method;
import java.lang.reflect.Modifier;
import java.nio.file.Files;
import java.nio.file.Path;
import java.util.EnumSet;
import java.util.HashMap;
import java.util.List;
import java.util.Map;
import java.util.Set;
import java.util.TreeSet;
import java.util.regex.Matcher;
import java.util.regex.Pattern;
import javax.tools.JavaCompiler;
import javax.tools.StandardJavaFileManager;
import javax.tools.ToolProvider;

/** The rules of LANGUAGE.md, and the face of DOC.md, that the source and the compiled classes can tell. */
public final class LanguageTest {
    private static final Path SOURCE = Path.of("src/main/java/LyingBeacons.java");
    private static final Path DOC = Path.of("../shared/DOC.md");
    private static final int MOST_FIELDS = 20, MOST_PARAMETERS = 7, MOST_LINES = 60, MOST_CLASSES = 12, DEEPEST = 8;
    private static final Set<String> LIBRARY = Set.of("Integer.bitCount", "Math.min", "Math.max");
    private static final Set<String> TYPES = Set.of("int", "long", "byte", "boolean", "void", "int[]", "long[]", "byte[]");
    /** What no method holds: rules 2, 6, 9 (each loop is a for with a counter), 10. */
    private static final Set<Tree.Kind> NEVER = EnumSet.of(Tree.Kind.THROW, Tree.Kind.TRY, Tree.Kind.CATCH, Tree.Kind.SYNCHRONIZED,
        Tree.Kind.ASSERT, Tree.Kind.LAMBDA_EXPRESSION, Tree.Kind.MEMBER_REFERENCE, Tree.Kind.WHILE_LOOP, Tree.Kind.DO_WHILE_LOOP,
        Tree.Kind.ENHANCED_FOR_LOOP, Tree.Kind.INSTANCE_OF, Tree.Kind.STRING_LITERAL, Tree.Kind.DOUBLE_LITERAL,
        Tree.Kind.FLOAT_LITERAL, Tree.Kind.IMPORT, Tree.Kind.PACKAGE, Tree.Kind.ANNOTATION, Tree.Kind.INTERFACE, Tree.Kind.ENUM,
        Tree.Kind.RECORD);
    private static int wrong = 0;

    private static void must(boolean holds, String rule) {
        if (!holds) {
            wrong++;
            System.out.println("not kept: " + rule);
        }
    }

    public static void main(String[] args) throws IOException {
        face();
        for (Class<?> inside : LyingBeacons.class.getDeclaredClasses()) {
            must(Modifier.isStatic(inside.getModifiers()), "rule 2: " + inside + " is static");
            must(!Modifier.isPublic(inside.getModifiers()), "rule 1: " + inside + " is not public");
            members(inside);
        }
        members(LyingBeacons.class);
        source();
        System.out.println(wrong == 0 ? "the rules are kept" : wrong + " rules are not kept");
        if (wrong != 0) {
            System.exit(1);
        }
    }

    /** The methods that the document's face shows, as "name(int,long)". */
    private static TreeSet<String> facesMethods(String doc) {
        TreeSet<String> methods = new TreeSet<>();
        Matcher method = Pattern.compile("(?m)^ +public int (\\w+)\\(([^)]*)\\);$").matcher(doc);
        while (method.find()) {
            methods.add(method.group(1) + "(" + method.group(2).replaceAll(" \\w+(,|$)", "$1").replace(" ", "") + ")");
        }
        return methods;
    }

    private static void face() throws IOException {
        TreeSet<String> want = facesMethods(Files.readString(DOC));
        must(want.size() == 28, "the document shows 28 methods, found " + want);
        TreeSet<String> got = new TreeSet<>();
        TreeSet<String> names = new TreeSet<>();
        TreeSet<String> hidden = new TreeSet<>();
        for (Method m : LyingBeacons.class.getDeclaredMethods()) {
            if (Modifier.isPrivate(m.getModifiers())) {
                hidden.add(m.getName());
            } else {
                must(m.getModifiers() == Modifier.PUBLIC && m.getReturnType() == int.class, "rule 1: public int " + m);
                got.add(m.getName() + List.of(m.getParameterTypes()).toString().replace(" ", "").replace('[', '(').replace(']', ')'));
                names.add(m.getName());
            }
        }
        must(got.equals(want), "rule 1: the methods of the face, found " + got + ", not " + want);
        for (Class<?> inside : LyingBeacons.class.getDeclaredClasses()) {
            for (Method m : inside.getDeclaredMethods()) {
                hidden.add(m.getName());
            }
        }
        hidden.retainAll(names);
        must(hidden.isEmpty(), "rule 1: other methods with a public one's name: " + hidden);
        constructorAndConstants();
    }

    private static void constructorAndConstants() {
        Class<?> face = LyingBeacons.class;
        Constructor<?>[] made = face.getDeclaredConstructors();
        must(made.length == 1 && made[0].getModifiers() == Modifier.PUBLIC && made[0].getParameterCount() == 0,
            "rule 1: one public constructor without numbers");
        must(face.getModifiers() == (Modifier.PUBLIC | Modifier.FINAL), "rule 1: a public final class");
        must(face.getSuperclass() == Object.class && face.getInterfaces().length == 0, "the face has no class above it");
        TreeSet<String> constants = new TreeSet<>();
        for (Field f : face.getDeclaredFields()) {
            if (!Modifier.isPrivate(f.getModifiers())) {
                constants.add(Modifier.toString(f.getModifiers()) + " " + f.getType() + " " + f.getName());
            }
        }
        TreeSet<String> want = new TreeSet<>();
        for (String name : "BAD NO FULL NONE".split(" ")) {
            want.add("public static final int " + name);
        }
        must(constants.equals(want), "rule 1: the constants, found " + constants);
    }

    private static void members(Class<?> one) {
        int fields = 0;
        for (Field f : one.getDeclaredFields()) {
            boolean fixed = Modifier.isStatic(f.getModifiers());
            fields += fixed ? 0 : 1;
            must(!fixed || Modifier.isFinal(f.getModifiers()) && f.getType() == int.class, "rule 5: " + f + " is a final number");
        }
        must(fields <= MOST_FIELDS, "rule 11: twenty fields in " + one);
        for (Method m : one.getDeclaredMethods()) {
            must(m.getParameterCount() <= MOST_PARAMETERS, "rule 11: seven parameters in " + m);
        }
    }

    private static void source() throws IOException {
        String[] lines = Files.readString(SOURCE).split("\n");
        for (int i = 0; i < lines.length; i++) {
            must(lines[i].length() <= 120, "a line of over 120 signs, line " + (i + 1));
            must(lines[i].chars().allMatch(sign -> sign >= 32 && sign < 127), "a sign beyond 127, line " + (i + 1));
        }
        JavaCompiler compiler = ToolProvider.getSystemJavaCompiler();
        try (StandardJavaFileManager files = compiler.getStandardFileManager(null, null, null)) {
            JavacTask task = (JavacTask) compiler.getTask(null, files, null, null, null, files.getJavaFileObjects(SOURCE));
            for (CompilationUnitTree unit : task.parse()) {
                Look look = new Look(unit, Trees.instance(task).getSourcePositions());
                look.scan(unit, null);
                look.end();
            }
        }
    }

    /** A look at each place of the source. */
    private static final class Look extends TreeScanner<Void, Void> {
        private final CompilationUnitTree unit;
        private final SourcePositions positions;
        private final LineMap lines;
        private final TreeSet<String> classes = new TreeSet<>();
        private final TreeSet<String> others = new TreeSet<>();
        /** Of each method by its name those that it calls: two of one name are taken as one that calls all. */
        private final Map<String, Set<String>> calls = new HashMap<>();
        private String method = "";

        Look(CompilationUnitTree aUnit, SourcePositions somePositions) {
            unit = aUnit;
            positions = somePositions;
            lines = aUnit.getLineMap();
        }

        private String at(Tree tree) {
            return ", line " + lines.getLineNumber(positions.getStartPosition(unit, tree));
        }

        void end() {
            must(classes.size() <= MOST_CLASSES, "rule 11: twelve classes");
            must(unit.getTypeDecls().size() == 1, "one class in the file");
            others.removeAll(classes);
            must(others.isEmpty(), "rule 3: other types: " + others);
            for (String one : calls.keySet()) {
                must(depth(one, 1) <= DEEPEST, "rules 8, 11: at most eight deep, no recursion: " + one);
            }
        }

        private int depth(String from, int above) {
            if (above > DEEPEST) {
                return above;
            }
            int deepest = above;
            for (String to : calls.getOrDefault(from, Set.of())) {
                deepest = Math.max(deepest, depth(to, above + 1));
            }
            return deepest;
        }

        @Override
        public Void scan(Tree tree, Void none) {
            must(tree == null || !NEVER.contains(tree.getKind()), "rules 2, 6, 9: " + (tree == null ? "" : tree.getKind() + at(tree)));
            return super.scan(tree, none);
        }

        @Override
        public Void visitClass(ClassTree tree, Void none) {
            must(method.isEmpty(), "rule 2: a local class" + at(tree));
            must(tree.getExtendsClause() == null && tree.getTypeParameters().isEmpty(), "a plain class" + at(tree));
            classes.add(tree.getSimpleName().toString());
            for (Tree member : tree.getMembers()) {
                must(member.getKind() != Tree.Kind.BLOCK, "rule 5: no initialiser block" + at(member));
            }
            return super.visitClass(tree, none);
        }

        @Override
        public Void visitMethod(MethodTree tree, Void none) {
            method = tree.getName().toString();
            calls.computeIfAbsent(method, name -> new TreeSet<>());
            long first = lines.getLineNumber(positions.getStartPosition(unit, tree));
            long last = lines.getLineNumber(positions.getEndPosition(unit, tree));
            must(last - first < MOST_LINES, "rule 11: sixty lines" + at(tree));
            if (tree.getReturnType() != null) {
                type(tree.getReturnType());
            }
            super.visitMethod(tree, none);
            method = "";
            return null;
        }

        private void type(Tree tree) {
            if (!TYPES.contains(tree.toString())) {
                others.add(tree.toString());
            }
        }

        @Override
        public Void visitVariable(VariableTree tree, Void none) {
            type(tree.getType());
            return super.visitVariable(tree, none);
        }

        @Override
        public Void visitMethodInvocation(MethodInvocationTree tree, Void none) {
            ExpressionTree to = tree.getMethodSelect();
            String name = to instanceof MemberSelectTree select ? select.getIdentifier().toString() : to.toString();
            boolean ofLibrary = to instanceof MemberSelectTree select && select.getExpression() instanceof IdentifierTree of
                && Character.isUpperCase(of.getName().charAt(0)) && !of.getName().contentEquals("Logbook");
            must(!ofLibrary || LIBRARY.contains(to.toString()), "rule 4: " + to + at(tree));
            if (!name.equals("super")) {
                calls.computeIfAbsent(method, one -> new TreeSet<>()).add(name);
            }
            return super.visitMethodInvocation(tree, none);
        }

        @Override
        public Void visitNewClass(NewClassTree tree, Void none) {
            must(method.isEmpty() && tree.getClassBody() == null, "rule 12: made with the object alone" + at(tree));
            return super.visitNewClass(tree, none);
        }

        @Override
        public Void visitNewArray(NewArrayTree tree, Void none) {
            must(method.isEmpty() && tree.getDimensions().size() <= 1, "rule 12: made with the object alone" + at(tree));
            return super.visitNewArray(tree, none);
        }

        @Override
        public Void visitForLoop(ForLoopTree tree, Void none) {
            boolean counted = tree.getInitializer().size() == 1 && tree.getUpdate().size() == 1;
            must(counted && tree.getCondition() != null, "rule 9: a counter against a bound" + at(tree));
            String counter = counted && tree.getInitializer().get(0) instanceof VariableTree one ? one.getName().toString() : "";
            Matcher update = Pattern.compile("(\\w+)(\\+\\+|--);?").matcher(counted ? tree.getUpdate().get(0).toString() : "");
            must(update.matches() && update.group(1).equals(counter), "rule 9: a counter that goes on by one" + at(tree));
            must(String.valueOf(tree.getCondition()).matches("(?s).*\\b" + counter + " [<>].*"), "rule 9: a bound" + at(tree));
            String body = tree.getStatement().toString();
            must(!Pattern.compile("\\b" + counter + "( [-+*/|&^]?=[^=]|\\+\\+|--)").matcher(body).find(), "rule 9: a counter that the body leaves" + at(tree));
            return super.visitForLoop(tree, none);
        }

        @Override
        public Void visitBinary(BinaryTree tree, Void none) {
            boolean divides = tree.getKind() == Tree.Kind.DIVIDE || tree.getKind() == Tree.Kind.REMAINDER;
            must(!divides, "rule 7: no division" + at(tree));
            return super.visitBinary(tree, none);
        }

        @Override
        public Void visitCompoundAssignment(CompoundAssignmentTree tree, Void none) {
            boolean divides = tree.getKind() == Tree.Kind.DIVIDE_ASSIGNMENT || tree.getKind() == Tree.Kind.REMAINDER_ASSIGNMENT;
            must(!divides, "rule 7: no division" + at(tree));
            return super.visitCompoundAssignment(tree, none);
        }

        @Override
        public Void visitTypeCast(TypeCastTree tree, Void none) {
            must(tree.getType().toString().equals("byte"), "rule 6: no cast of an object" + at(tree));
            return super.visitTypeCast(tree, none);
        }
    }
}
