import com.sun.source.tree.*;
import com.sun.source.util.JavacTask;
import com.sun.source.util.TreePathScanner;
import com.sun.source.util.Trees;
import java.lang.reflect.Field;
import java.lang.reflect.Method;
import java.lang.reflect.Modifier;
import java.nio.file.Files;
import java.nio.file.Path;
import java.util.*;
import javax.lang.model.element.Element;
import javax.lang.model.element.ElementKind;
import javax.lang.model.element.ExecutableElement;
import javax.lang.model.element.TypeElement;
import javax.tools.JavaCompiler;
import javax.tools.JavaFileObject;
import javax.tools.StandardJavaFileManager;
import javax.tools.ToolProvider;

/** Whether the class keeps to what LANGUAGE.md says, as far as its source tells. */
public final class LanguageTests {
    static final String SOURCE = "src/main/java/TightRings.java";
    static final int CLASSES = 12, FIELDS = 20, LINES = 60, PARAMETERS = 7, DEPTH = 8;
    static final Set<String> LIBRARY = Set.of("Long.bitCount", "Long.compare", "Integer.bitCount", "Math.abs", "Math.min",
        "Math.max", "Math.floorDiv", "System.arraycopy");
    static final Set<String> FORBIDDEN = Set.of("THROW", "TRY", "CATCH", "SYNCHRONIZED", "ASSERT", "LAMBDA_EXPRESSION",
        "MEMBER_REFERENCE", "INSTANCE_OF", "TYPE_CAST_OF_CLASS", "DOUBLE_LITERAL", "FLOAT_LITERAL", "STRING_LITERAL",
        "IMPORT", "PACKAGE");
    static final String[] FACE = {
        "int feed(int,int,int,int,int)", "int end(int)", "int text()", "int fault()", "int put(int,int,int)", "boolean gone(int)",
        "boolean moved(int,int,int)", "boolean pace(int,int,int)", "int tick(int)", "int back()", "int is(int)", "int point(int,int)",
        "int spots(int)", "int spot(int,int,int)", "long circle(int,int)", "int tight(int,int)", "int rim(int)", "int inside(int,int,int)",
        "int needed(int,int)", "int proof(int,long)", "int when(int,int)", "int hull(int,int)", "int area(int)", "int layer(int,int)",
        "long strip(int,int)", "int couple(int,int,int)", "long ring(int,int)", "long two(int,int)", "long box(int,int)",
        "int meets(int,int)", "long fewer(int,int,int)", "long worse(int,int,int,int)", "long calm(int,int)",
        "long reach(int,int,int,int)", "int whole(int,int)", "int sees(int,int,int,int)", "int heaviest(int)", "int deep(int,int,int)",
        "int meetsAt(int,int)", "int changes(int)", "int write(int)", "int octet(int)"};

    static int wrong = 0;
    static int classes = 0;
    static final Set<String> faceNames = new HashSet<>();
    static final Map<String, Set<String>> calls = new TreeMap<>();

    public static void main(String[] args) throws Exception {
        checkFace();
        checkRoom();
        String text = Files.readString(Path.of(SOURCE));
        for (int i = 0; i < text.length(); i++) if (text.charAt(i) > 126) say("sign " + (int) text.charAt(i) + " at " + i);
        JavaCompiler compiler = ToolProvider.getSystemJavaCompiler();
        StandardJavaFileManager files = compiler.getStandardFileManager(null, null, null);
        Iterable<? extends JavaFileObject> sources = files.getJavaFileObjects(SOURCE);
        JavacTask task = (JavacTask) compiler.getTask(null, files, null, List.of("-proc:none"), null, sources);
        Iterable<? extends CompilationUnitTree> units = task.parse();
        task.analyze();
        for (CompilationUnitTree unit : units) new Reader(Trees.instance(task)).scan(unit, null);
        if (classes > CLASSES) say(classes + " classes");
        for (String method : calls.keySet()) depth(method, new ArrayDeque<>());
        System.out.println(classes + " classes, " + calls.size() + " methods, the deepest call " + deepest + ", " + wrong + " not as the rules say");
        if (wrong != 0) System.exit(1);
    }

    static void say(String what) {
        wrong++;
        System.out.println(what);
    }

    static void checkFace() throws Exception {
        Set<String> due = new TreeSet<>(Arrays.asList(FACE)), found = new TreeSet<>();
        for (Method m : TightRings.class.getDeclaredMethods()) {
            if (m.isSynthetic()) continue;
            if (!Modifier.isPrivate(m.getModifiers())) {
                StringJoiner types = new StringJoiner(",", "(", ")");
                for (Class<?> c : m.getParameterTypes()) types.add(c.getName());
                found.add(m.getReturnType().getName() + " " + m.getName() + types);
                if (!Modifier.isPublic(m.getModifiers()) || Modifier.isStatic(m.getModifiers())) say(m.toString());
            }
        }
        if (!due.equals(found)) say("the face is " + found);
        for (String s : due) faceNames.add(s.substring(s.indexOf(' ') + 1, s.indexOf('(')));
        for (Field f : TightRings.class.getDeclaredFields()) {
            if (!Modifier.isPrivate(f.getModifiers()) && !f.getName().equals("NONE")) say("field " + f);
        }
        if (TightRings.NONE != -1 || !Modifier.isFinal(TightRings.class.getModifiers())) say("NONE or final");
        if (TightRings.class.getDeclaredConstructors().length != 1) say("constructors");
        TightRings.class.getConstructor();
    }

    /** What an object takes must leave the one room of a run nearly empty. */
    static void checkRoom() throws Exception {
        long[] found = new long[2];
        count(new TightRings(), found);
        System.out.println("an object has " + found[0] + " objects and arrays, " + found[1] + " fields and elements");
        if (found[0] > 1000 || found[1] > 20000) say("an object takes too much room");
    }

    static void count(Object o, long[] found) throws Exception {
        found[0]++;
        if (o.getClass().isArray()) {
            int length = java.lang.reflect.Array.getLength(o);
            found[1] += length;
            if (!o.getClass().getComponentType().isPrimitive()) for (int i = 0; i < length; i++) count(java.lang.reflect.Array.get(o, i), found);
            return;
        }
        for (Field f : o.getClass().getDeclaredFields()) {
            if (Modifier.isStatic(f.getModifiers())) continue;
            found[1]++;
            f.setAccessible(true);
            if (!f.getType().isPrimitive()) count(f.get(o), found);
        }
    }

    static int deepest = 0;

    static void depth(String method, ArrayDeque<String> open) {
        if (open.contains(method)) { say("recursion: " + open + " " + method); return; }
        open.addLast(method);
        deepest = Math.max(deepest, open.size());
        if (open.size() > DEPTH) say("too deep: " + open);
        else for (String callee : calls.getOrDefault(method, Set.of())) depth(callee, open);
        open.removeLast();
    }

    static final class Reader extends TreePathScanner<Void, Void> {
        final Trees trees;
        String method = null;
        boolean maker = false;

        Reader(Trees trees) { this.trees = trees; }

        String where(Tree t) {
            CompilationUnitTree unit = getCurrentPath().getCompilationUnit();
            return "line " + unit.getLineMap().getLineNumber(trees.getSourcePositions().getStartPosition(unit, t));
        }

        @Override public Void scan(Tree t, Void v) {
            if (t != null && FORBIDDEN.contains(t.getKind().name())) say(t.getKind() + " in " + t);
            return super.scan(t, v);
        }

        @Override public Void visitClass(ClassTree c, Void v) {
            classes++;
            Set<javax.lang.model.element.Modifier> flags = c.getModifiers().getFlags();
            boolean top = getCurrentPath().getParentPath().getLeaf() instanceof CompilationUnitTree;
            if (c.getKind() != Tree.Kind.CLASS) say("a " + c.getKind());
            if (!top && !flags.contains(javax.lang.model.element.Modifier.STATIC)) say("class " + c.getSimpleName() + " is not static");
            if (!top && !flags.contains(javax.lang.model.element.Modifier.PRIVATE)) say("class " + c.getSimpleName() + " is not private");
            if (method != null) say("a class within a method");
            int fields = 0;
            for (Tree m : c.getMembers()) {
                if (m instanceof BlockTree) say("an initialiser block");
                if (m instanceof VariableTree && !((VariableTree) m).getModifiers().getFlags().contains(javax.lang.model.element.Modifier.STATIC)) fields++;
            }
            if (fields > FIELDS) say("class " + c.getSimpleName() + " has " + fields + " fields");
            return super.visitClass(c, v);
        }

        @Override public Void visitVariable(VariableTree f, Void v) {
            boolean field = getCurrentPath().getParentPath().getLeaf() instanceof ClassTree;
            Set<javax.lang.model.element.Modifier> flags = f.getModifiers().getFlags();
            if (field && flags.contains(javax.lang.model.element.Modifier.STATIC)) {
                if (!flags.contains(javax.lang.model.element.Modifier.FINAL)) say("static field " + f.getName() + " is not final");
                if (!f.getType().toString().equals("int")) say("static field " + f.getName() + " is no int");
            }
            return super.visitVariable(f, v);
        }

        @Override public Void visitMethod(MethodTree m, Void v) {
            ExecutableElement e = (ExecutableElement) trees.getElement(getCurrentPath());
            String owner = ((TypeElement) e.getEnclosingElement()).getSimpleName().toString();
            CompilationUnitTree unit = getCurrentPath().getCompilationUnit();
            long from = unit.getLineMap().getLineNumber(trees.getSourcePositions().getStartPosition(unit, m));
            long to = unit.getLineMap().getLineNumber(Math.max(0, trees.getSourcePositions().getEndPosition(unit, m)));
            method = owner + "." + e;
            maker = e.getKind() == ElementKind.CONSTRUCTOR;
            if (to - from >= LINES) say(method + " has " + (to - from + 1) + " lines");
            if (m.getParameters().size() > PARAMETERS) say(method + " takes too many");
            boolean open = owner.equals("TightRings") && e.getModifiers().contains(javax.lang.model.element.Modifier.PUBLIC);
            if (!open && faceNames.contains(m.getName().toString())) say(method + " has the name of a public one");
            calls.computeIfAbsent(method, k -> new TreeSet<>());
            super.visitMethod(m, v);
            method = null;
            maker = false;
            return null;
        }

        @Override public Void visitMethodInvocation(MethodInvocationTree c, Void v) {
            Element e = trees.getElement(getCurrentPath());
            Element owner = e.getEnclosingElement();
            Element top = owner;
            while (top.getEnclosingElement().getKind().isClass()) top = top.getEnclosingElement();
            if (top.getSimpleName().contentEquals("TightRings")) {
                calls.get(method).add(owner.getSimpleName() + "." + e);
            } else if (!c.toString().equals("super()") && !LIBRARY.contains(owner.getSimpleName() + "." + e.getSimpleName())) {
                say(where(c) + ": library call " + c);
            }
            return super.visitMethodInvocation(c, v);
        }

        @Override public Void visitNewClass(NewClassTree n, Void v) {
            if (method != null && !maker || n.getClassBody() != null) say(where(n) + ": " + n);
            return super.visitNewClass(n, v);
        }

        @Override public Void visitNewArray(NewArrayTree n, Void v) {
            if (method != null && !maker) say(where(n) + ": " + n);
            return super.visitNewArray(n, v);
        }

        @Override public Void visitWhileLoop(WhileLoopTree w, Void v) {
            if (w.getCondition().toString().equals("(true)")) say(where(w) + ": a loop without an end");
            return super.visitWhileLoop(w, v);
        }
    }
}
