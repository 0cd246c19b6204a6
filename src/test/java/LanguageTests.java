import com.sun.source.tree.*;
import com.sun.source.util.JavacTask;
import com.sun.source.util.SourcePositions;
import com.sun.source.util.TreeScanner;
import com.sun.source.util.Trees;
import java.io.File;
import java.util.EnumSet;
import java.util.List;
import java.util.Set;
import java.util.TreeMap;
import java.util.TreeSet;
import javax.lang.model.element.Modifier;
import javax.lang.model.type.TypeKind;
import javax.tools.JavaCompiler;
import javax.tools.ToolProvider;

/** Looks through the class's source for what LANGUAGE.md rules out, as far as the source alone can tell. */
public final class LanguageTests {
    private static final Set<String> FACE = Set.of(
            "public JournalVolume()", "public int make(int,int,boolean)", "public int link(int,int,int)",
            "public int remove(int,int)", "public int move(int,int,int,int)", "public int write(int,int,int)",
            "public int punch(int,int,int)", "public int sync()", "public int checkpoint()", "public int crash(int)",
            "public boolean damage(int,int,int,int)", "public int mend()", "public int mended(int)",
            "public int find(int,int)", "public int entry(int,int,int)", "public int of(int,int)",
            "public int read(int,int)", "public int extent(int,int,int)", "public int state(int)");
    private static final Set<String> CONSTANTS = Set.of("REFUSED", "EXISTS", "FULL", "NOT_EMPTY", "LOOP");
    private static final Set<Tree.Kind> RULED_OUT = EnumSet.of(
            Tree.Kind.THROW, Tree.Kind.TRY, Tree.Kind.SYNCHRONIZED, Tree.Kind.ASSERT, Tree.Kind.INSTANCE_OF,
            Tree.Kind.LAMBDA_EXPRESSION, Tree.Kind.MEMBER_REFERENCE, Tree.Kind.NULL_LITERAL, Tree.Kind.STRING_LITERAL,
            Tree.Kind.FLOAT_LITERAL, Tree.Kind.DOUBLE_LITERAL, Tree.Kind.NEW_CLASS, Tree.Kind.MEMBER_SELECT,
            Tree.Kind.ENHANCED_FOR_LOOP, Tree.Kind.IMPORT, Tree.Kind.PACKAGE, Tree.Kind.ENUM, Tree.Kind.INTERFACE,
            Tree.Kind.RECORD, Tree.Kind.ANNOTATION);
    private static final Set<TypeKind> NUMBERS = EnumSet.of(TypeKind.INT, TypeKind.LONG, TypeKind.SHORT, TypeKind.BYTE,
            TypeKind.CHAR, TypeKind.BOOLEAN);

    private static int wrong = 0;

    private static void fault(int rule, String what) {
        wrong++;
        System.out.println("rule " + rule + ": " + what);
    }

    /** Goes through all of the class, with the method that it is in. */
    private static final class Reader extends TreeScanner<Void, Void> {
        final TreeMap<String, Set<String>> calls = new TreeMap<>();
        final SourcePositions positions;
        final CompilationUnitTree unit;
        String method = null;
        int callsAround = 0;

        Reader(SourcePositions positions, CompilationUnitTree unit) {
            this.positions = positions;
            this.unit = unit;
        }

        private long line(Tree tree, boolean end) {
            long at = end ? positions.getEndPosition(unit, tree) : positions.getStartPosition(unit, tree);
            return unit.getLineMap().getLineNumber(at);
        }

        @Override
        public Void scan(Tree tree, Void none) {
            if (tree != null && RULED_OUT.contains(tree.getKind())) {
                fault(6, tree.getKind() + " at line " + line(tree, false));
            }
            return super.scan(tree, none);
        }

        @Override
        public Void visitMethod(MethodTree tree, Void none) {
            method = tree.getName().toString();
            calls.putIfAbsent(method, new TreeSet<>());
            if (tree.getParameters().size() > 7) {
                fault(10, method + " takes more than seven");
            }
            if (line(tree, true) - line(tree, false) >= 60) {
                fault(10, method + " is long");
            }
            if (tree.getReturnType() != null && !isNumber(tree.getReturnType(), true)) {
                fault(4, method + " answers " + tree.getReturnType());
            }
            super.visitMethod(tree, none);
            method = null;
            return null;
        }

        @Override
        public Void visitMethodInvocation(MethodInvocationTree tree, Void none) {
            String called = tree.getMethodSelect().toString();
            // The compiler puts super() into a constructor.
            if (called.equals("super")) {
                return null;
            }
            calls.get(method).add(called);
            if (callsAround > 0) {
                fault(10, "the call of " + called + " stands inside another, line " + line(tree, false));
            }
            callsAround++;
            super.visitMethodInvocation(tree, none);
            callsAround--;
            return null;
        }

        @Override
        public Void visitNewArray(NewArrayTree tree, Void none) {
            if (method != null) {
                fault(4, "an array is made in " + method);
            }
            boolean constant = tree.getDimensions().size() == 1
                    && EnumSet.of(Tree.Kind.IDENTIFIER, Tree.Kind.INT_LITERAL).contains(tree.getDimensions().get(0).getKind());
            if (!constant) {
                fault(4, "the length of an array, line " + line(tree, false));
            }
            return super.visitNewArray(tree, none);
        }

        @Override
        public Void visitVariable(VariableTree tree, Void none) {
            Tree type = tree.getType();
            boolean row = type.getKind() == Tree.Kind.ARRAY_TYPE;
            if (!isNumber(row ? ((ArrayTypeTree) type).getType() : type, false)) {
                fault(2, tree.getName() + " is of type " + type);
            }
            return super.visitVariable(tree, none);
        }

        @Override
        public Void visitTypeCast(TypeCastTree tree, Void none) {
            if (!isNumber(tree.getType(), false)) {
                fault(6, "a cast to " + tree.getType());
            }
            return super.visitTypeCast(tree, none);
        }

        private static boolean isNumber(Tree type, boolean orVoid) {
            if (type.getKind() != Tree.Kind.PRIMITIVE_TYPE) {
                return false;
            }
            TypeKind kind = ((PrimitiveTypeTree) type).getPrimitiveTypeKind();
            return NUMBERS.contains(kind) || orVoid && kind == TypeKind.VOID;
        }

        /** How deep calls go from here; 99 if they come back. */
        int depth(String from, int above) {
            if (above > 20) {
                return 99;
            }
            int most = 0;
            for (String called : calls.getOrDefault(from, Set.of())) {
                most = Math.max(most, depth(called, above + 1));
            }
            return most + 1;
        }
    }

    private static void lookAtField(VariableTree field) {
        Set<Modifier> flags = field.getModifiers().getFlags();
        boolean constant = CONSTANTS.contains(field.getName().toString());
        if (flags.contains(Modifier.PRIVATE) == constant || flags.contains(Modifier.PUBLIC) != constant) {
            fault(1, field.getName() + " is seen from where it should not, or not from where it should");
        }
        boolean row = field.getType().getKind() == Tree.Kind.ARRAY_TYPE;
        if (flags.contains(Modifier.STATIC) && (row || !flags.contains(Modifier.FINAL))) {
            fault(5, field.getName() + " is static and no constant");
        }
        if (row && !flags.contains(Modifier.FINAL)) {
            fault(4, field.getName() + " could become another array");
        }
    }

    private static String signature(MethodTree method) {
        StringBuilder types = new StringBuilder();
        for (VariableTree parameter : method.getParameters()) {
            types.append(types.length() == 0 ? "" : ",").append(parameter.getType());
        }
        boolean constructor = method.getReturnType() == null;
        return "public " + (constructor ? "JournalVolume" : method.getReturnType() + " " + method.getName())
                + "(" + types + ")";
    }

    private static void lookAtMembers(ClassTree type) {
        Set<String> face = new TreeSet<>(), open = new TreeSet<>(), hidden = new TreeSet<>();
        int fields = 0;
        for (Tree member : type.getMembers()) {
            if (member instanceof VariableTree field) {
                lookAtField(field);
                fields += field.getModifiers().getFlags().contains(Modifier.STATIC) ? 0 : 1;
            } else if (member instanceof MethodTree method) {
                boolean isPrivate = method.getModifiers().getFlags().contains(Modifier.PRIVATE);
                (isPrivate ? hidden : open).add(method.getName().toString());
                if (!isPrivate) {
                    face.add(signature(method));
                }
            } else {
                fault(1, "a member that is neither field nor method");
            }
        }
        hidden.retainAll(open);
        if (!hidden.isEmpty()) {
            fault(1, "private methods with the names of public ones: " + hidden);
        }
        if (!face.equals(FACE)) {
            fault(1, "the face is " + face);
        }
        if (fields > 40) {
            fault(10, fields + " fields");
        }
    }

    public static void main(String[] args) throws Exception {
        File source = new File(args.length > 0 ? args[0] : "src/main/java/JournalVolume.java");
        JavaCompiler compiler = ToolProvider.getSystemJavaCompiler();
        var files = compiler.getStandardFileManager(null, null, null).getJavaFileObjects(source);
        JavacTask task = (JavacTask) compiler.getTask(null, null, null, List.of(), null, files);
        CompilationUnitTree unit = task.parse().iterator().next();
        if (unit.getTypeDecls().size() != 1) {
            fault(1, "more than one class");
        }
        ClassTree type = (ClassTree) unit.getTypeDecls().get(0);
        if (!type.getModifiers().getFlags().equals(EnumSet.of(Modifier.PUBLIC, Modifier.FINAL))) {
            fault(1, "the class is not public and final");
        }
        lookAtMembers(type);
        Reader reader = new Reader(Trees.instance(task).getSourcePositions(), unit);
        reader.scan(unit, null);
        for (String method : reader.calls.keySet()) {
            int depth = reader.depth(method, 0);
            if (depth > 6) {
                fault(depth > 20 ? 8 : 10, method + " has calls too deep");
            }
        }
        System.out.println(wrong == 0 ? "nothing that is ruled out" : wrong + " things are ruled out");
        if (wrong != 0) {
            System.exit(1);
        }
    }
}
