import com.sun.source.tree.*;
import com.sun.source.util.JavacTask;
import com.sun.source.util.SourcePositions;
import com.sun.source.util.TreePathScanner;
import com.sun.source.util.Trees;
import java.io.File;
import java.lang.reflect.Constructor;
import java.lang.reflect.Field;
import java.lang.reflect.Method;
import java.lang.reflect.Modifier;
import java.util.Arrays;
import java.util.HashMap;
import java.util.HashSet;
import java.util.Map;
import java.util.Set;
import java.util.TreeMap;
import java.util.TreeSet;
import javax.lang.model.element.Element;
import javax.lang.model.element.ExecutableElement;
import javax.lang.model.element.TypeElement;
import javax.tools.JavaCompiler;
import javax.tools.StandardJavaFileManager;
import javax.tools.ToolProvider;

/** Holds the program's source against those rules of LANGUAGE.md that a program can look at. */
public final class LanguageTest extends TreePathScanner<Void, Void> {
    private static final String[] FACE = {
        "int of(int,int)", "int page(int,int)", "int write(int,int)", "int slot(int)", "int key(int,int)",
        "int terms(int,int)", "int feed(int,int,int,int,int)", "int end(int)", "int row()", "int tears()",
        "int law()", "int orders()", "int fault()", "int stopped()", "int force(int)", "int put(int,int)",
        "int drop(int)", "int flush(int)", "int crash(int)", "int undo()", "int behind(int,int)", "int lost(int)",
        "int torn(int)", "int splits()", "int room()", "int twin(int)", "int salts(int)", "int spent()",
        "int seen(int,int)", "int forget()", "int canBe()", "int read(int)", "long few(int,int)",
        "int compare(int,int)", "int years(int,int)", "int drawn(int)", "int image(int)", "int back(int)",
        "int count(int)", "int status()"};
    private static final Set<String> LIBRARY = new HashSet<>(Arrays.asList(
        "java.lang.System.arraycopy", "java.util.Arrays.fill", "java.util.Arrays.copyOf", "java.lang.Math.min",
        "java.lang.Math.max", "java.lang.Integer.bitCount", "java.lang.String.length", "java.lang.String.charAt"));
    private static final Set<String> RULED_OUT = new HashSet<>(Arrays.asList(
        "THROW", "TRY", "CATCH", "SYNCHRONIZED", "ASSERT", "LAMBDA_EXPRESSION", "MEMBER_REFERENCE"));

    private static int wrong = 0;

    private final Trees trees;
    private final SourcePositions places;
    private final CompilationUnitTree unit;
    private final Map<String, Set<String>> calls = new TreeMap<>();
    private final Set<String> faceNames = new HashSet<>();
    private int classes = 0;
    private int linesLooked = 0;

    private LanguageTest(Trees trees, CompilationUnitTree unit) {
        this.trees = trees;
        this.unit = unit;
        places = trees.getSourcePositions();
        for (String f : FACE) {
            faceNames.add(f.substring(f.indexOf(' ') + 1, f.indexOf('(')));
        }
    }

    public static void main(String[] args) throws Exception {
        face();
        JavaCompiler compiler = ToolProvider.getSystemJavaCompiler();
        StandardJavaFileManager files = compiler.getStandardFileManager(null, null, null);
        JavacTask task = (JavacTask) compiler.getTask(null, files, null, Arrays.asList("-proc:none"), null,
            files.getJavaFileObjects(new File(args[0])));
        CompilationUnitTree unit = task.parse().iterator().next();
        task.analyze();
        LanguageTest look = new LanguageTest(Trees.instance(task), unit);
        look.scan(unit, null);
        look.atTheEnd();
        System.out.println(wrong == 0 ? "the language is kept to" : wrong + " rules are broken");
        if (wrong != 0) {
            System.exit(1);
        }
    }

    private static void broken(String what) {
        wrong++;
        System.out.println(what);
    }

    private static void face() {
        Class<?> c = TwinBuckets.class;
        Set<String> due = new TreeSet<>(Arrays.asList(FACE));
        Set<String> got = new TreeSet<>();
        for (Method m : c.getDeclaredMethods()) {
            if (Modifier.isPublic(m.getModifiers()) && !Modifier.isStatic(m.getModifiers())) {
                StringBuilder sign = new StringBuilder(m.getReturnType() + " " + m.getName() + "(");
                for (int i = 0; i < m.getParameterCount(); i++) {
                    sign.append(i > 0 ? "," : "").append(m.getParameterTypes()[i]);
                }
                got.add(sign.append(")").toString());
            } else if (!Modifier.isPrivate(m.getModifiers())) {
                broken("rule 1: method " + m);
            }
        }
        if (!due.equals(got)) {
            broken("rule 1: the face has " + got);
        }
        for (Field f : c.getDeclaredFields()) {
            if (!Modifier.isPrivate(f.getModifiers()) && !f.getName().equals("NONE")) {
                broken("rule 1: field " + f);
            }
        }
        Constructor<?>[] all = c.getDeclaredConstructors();
        if (all.length != 1 || all[0].getParameterCount() != 0 || !Modifier.isPublic(all[0].getModifiers())) {
            broken("rule 1: constructors");
        }
        if (c.getModifiers() != (Modifier.PUBLIC | Modifier.FINAL)) {
            broken("rule 1: the class's modifiers");
        }
    }

    private long line(Tree t) {
        return unit.getLineMap().getLineNumber(places.getStartPosition(unit, t));
    }

    private long lastLine(Tree t) {
        return unit.getLineMap().getLineNumber(places.getEndPosition(unit, t));
    }

    @Override
    public Void scan(Tree tree, Void v) {
        if (tree != null && RULED_OUT.contains(tree.getKind().name())) {
            broken("rule 2 or 6: " + tree.getKind() + " at line " + line(tree));
        }
        return super.scan(tree, v);
    }

    @Override
    public Void visitImport(ImportTree t, Void v) {
        if (!t.getQualifiedIdentifier().toString().equals("java.util.Arrays")) {
            broken("rule 4: import at line " + line(t));
        }
        return super.visitImport(t, v);
    }

    @Override
    public Void visitClass(ClassTree t, Void v) {
        classes++;
        Set<javax.lang.model.element.Modifier> flags = t.getModifiers().getFlags();
        boolean isInner = getCurrentPath().getParentPath().getLeaf() instanceof ClassTree;
        if (isInner && !flags.contains(javax.lang.model.element.Modifier.STATIC)) {
            broken("rule 2: class " + t.getSimpleName());
        }
        if (!isInner && !(getCurrentPath().getParentPath().getLeaf() instanceof CompilationUnitTree)) {
            broken("rule 2: a local or anonymous class at line " + line(t));
        }
        int fields = 0;
        for (Tree m : t.getMembers()) {
            if (m instanceof VariableTree) {
                Set<javax.lang.model.element.Modifier> f = ((VariableTree) m).getModifiers().getFlags();
                boolean isStatic = f.contains(javax.lang.model.element.Modifier.STATIC);
                fields += isStatic ? 0 : 1;
                if (isStatic && !f.contains(javax.lang.model.element.Modifier.FINAL)) {
                    broken("rule 5: " + m);
                }
            } else if (m instanceof BlockTree) {
                broken("rule 5: an initialiser block in " + t.getSimpleName());
            }
        }
        if (fields > 20) {
            broken("rule 11: " + fields + " fields in " + t.getSimpleName());
        }
        return super.visitClass(t, v);
    }

    @Override
    public Void visitMethod(MethodTree t, Void v) {
        if (places.getEndPosition(unit, t) < 0) {
            // a constructor that nobody wrote
            return null;
        }
        long lines = lastLine(t) - line(t) + 1;
        linesLooked += lines;
        if (lines > 60) {
            broken("rule 11: " + t.getName() + " has " + lines + " lines");
        }
        if (t.getParameters().size() > 7) {
            broken("rule 11: " + t.getName() + " has too many parameters");
        }
        Element e = trees.getElement(getCurrentPath());
        boolean isFace = e.getEnclosingElement().getSimpleName().contentEquals("TwinBuckets")
            && t.getModifiers().getFlags().contains(javax.lang.model.element.Modifier.PUBLIC);
        if (!isFace && faceNames.contains(t.getName().toString())) {
            broken("rule 1: " + nameOf(e) + " bears a public name");
        }
        if (Arrays.asList("equals", "hashCode", "toString").contains(t.getName().toString())) {
            broken("rule 6: " + nameOf(e));
        }
        calls.computeIfAbsent(nameOf(e), k -> new TreeSet<>());
        return super.visitMethod(t, v);
    }

    private static String nameOf(Element e) {
        return ((TypeElement) e.getEnclosingElement()).getQualifiedName() + "." + e.getSimpleName();
    }

    private String caller() {
        com.sun.source.util.TreePath p = getCurrentPath();
        while (p != null && !(p.getLeaf() instanceof MethodTree)) {
            p = p.getParentPath();
        }
        return p == null ? null : nameOf(trees.getElement(p));
    }

    @Override
    public Void visitMethodInvocation(MethodInvocationTree t, Void v) {
        Element e = trees.getElement(getCurrentPath());
        if (e instanceof ExecutableElement && caller() != null && !e.getSimpleName().contentEquals("<init>")) {
            String name = nameOf(e);
            if (name.startsWith("TwinBuckets")) {
                calls.computeIfAbsent(caller(), k -> new TreeSet<>()).add(name);
            } else if (!LIBRARY.contains(name)) {
                broken("rule 4: " + name + " at line " + line(t));
            }
        }
        return super.visitMethodInvocation(t, v);
    }

    private void atTheEnd() {
        if (classes > 12) {
            broken("rule 11: " + classes + " classes");
        }
        if (linesLooked < 400 || calls.size() < 80) {
            broken("the look at the source saw too little of it: " + linesLooked + " lines, " + calls.size() + " methods");
        }
        Map<String, Integer> deep = new HashMap<>();
        for (String m : calls.keySet()) {
            int d = depth(m, deep);
            if (d > 8) {
                broken("rule 11: calls of " + m + " go " + d + " deep");
            }
        }
    }

    private boolean reaches(String from, String to, Set<String> looked) {
        for (String next : calls.getOrDefault(from, new TreeSet<>())) {
            if (next.equals(to) || looked.add(next) && reaches(next, to, looked)) {
                return true;
            }
        }
        return false;
    }

    /** How many calls stand open at most below a method; methods that call one another count as one. */
    private int depth(String method, Map<String, Integer> known) {
        Integer d = known.get(method);
        if (d != null) {
            return d;
        }
        Set<String> circle = new TreeSet<>();
        circle.add(method);
        for (String other : calls.keySet()) {
            if (reaches(method, other, new HashSet<>()) && reaches(other, method, new HashSet<>())) {
                circle.add(other);
            }
        }
        int most = 0;
        for (String m : circle) {
            for (String next : calls.getOrDefault(m, new TreeSet<>())) {
                if (!circle.contains(next)) {
                    most = Math.max(most, depth(next, known));
                }
            }
        }
        for (String m : circle) {
            known.put(m, most + 1);
        }
        return most + 1;
    }
}
