import com.sun.source.tree.BinaryTree;
import com.sun.source.tree.ClassTree;
import com.sun.source.tree.ForLoopTree;
import com.sun.source.tree.MethodInvocationTree;
import com.sun.source.tree.MethodTree;
import com.sun.source.tree.NewArrayTree;
import com.sun.source.tree.NewClassTree;
import com.sun.source.tree.ThrowTree;
import com.sun.source.tree.Tree;
import com.sun.source.tree.VariableTree;
import com.sun.source.tree.WhileLoopTree;
import com.sun.source.util.TreeScanner;
import java.util.HashMap;
import java.util.HashSet;
import java.util.LinkedHashMap;
import java.util.Map;
import java.util.Set;
import javax.lang.model.element.Element;
import javax.lang.model.element.Modifier;

/** ../shared/LANGUAGE.md, rule by rule, as far as it can be looked up; each check begins with its rule's number. */
public final class LanguageTests extends TreeScanner<Void, Void> {
    private static final Set<String> OWN = Set.of("Plan", "TextReader", "Cache", "Core", "Run", "Solo");
    private static final Set<String> LIBRARY = Set.of("java.lang.String.length", "java.lang.String.charAt",
        "java.lang.Math.max", "java.lang.Math.min", "java.lang.Math.floorMod", "java.lang.System.arraycopy",
        "java.lang.Object.<init>");
    private static final Set<String> TYPES = Set.of("int", "boolean", "int[]", "boolean[]", "java.lang.String");
    private static final Set<String> THROWN = Set.of("IllegalStateException", "IllegalArgumentException",
        "IndexOutOfBoundsException", "ArithmeticException", "UnsupportedOperationException", "NoSuchElementException",
        "RuntimeException");

    /** What the class does without, with the rule that forbids it, or would have it looked at first. */
    private static final Map<Tree.Kind, Integer> UNWANTED = Map.of(Tree.Kind.LAMBDA_EXPRESSION, 2,
        Tree.Kind.MEMBER_REFERENCE, 2, Tree.Kind.TRY, 6, Tree.Kind.SYNCHRONIZED, 6, Tree.Kind.ASSERT, 6,
        Tree.Kind.INSTANCE_OF, 6, Tree.Kind.TYPE_CAST, 6, Tree.Kind.DO_WHILE_LOOP, 9, Tree.Kind.ENHANCED_FOR_LOOP, 12);

    private final SourceTree tree = new SourceTree();
    private final Map<String, Set<String>> calls = new LinkedHashMap<>();
    private final Set<String> face = new HashSet<>();
    private String method = "";
    private int classes;

    public static void main(String[] args) {
        new LanguageTests().all();
        Check.end("LanguageTests");
    }

    private void all() {
        Check.due("no package line", tree.unit.getPackage() == null, true);
        Check.due("1: classes in the file", tree.unit.getTypeDecls().size(), 1);
        for (Tree member : tree.outer().getMembers()) {
            if (member instanceof MethodTree m && m.getModifiers().getFlags().contains(Modifier.PUBLIC)) {
                face.add(m.getName().toString());
            }
        }
        scan(tree.unit, null);
        Check.due("11: classes", classes <= 12, true);
        Map<String, Integer> depths = new HashMap<>();
        for (String each : calls.keySet()) {
            Check.due("11: calls deep from " + each, depth(each, depths) <= 8, true);
        }
        Check.due("3: signs 1 to 127", Compiled.source().chars().allMatch(c -> c > 0 && c < 128), true);
    }

    /** How many calls stand open at once; one that comes back to itself counts as a thousand. */
    private int depth(String from, Map<String, Integer> depths) {
        Integer known = depths.get(from);
        if (known != null) {
            return known;
        }
        depths.put(from, 1000);
        int most = 0;
        for (String to : calls.getOrDefault(from, Set.of())) {
            most = Math.max(most, depth(to, depths));
        }
        depths.put(from, most + 1);
        return most + 1;
    }

    @Override
    public Void scan(Tree each, Void p) {
        if (each != null) {
            Integer rule = UNWANTED.get(each.getKind());
            Check.due(rule + ": " + each.getKind() + " in " + method, rule != null, false);
        }
        return super.scan(each, p);
    }

    @Override
    public Void visitClass(ClassTree each, Void p) {
        String name = each.getSimpleName().toString();
        Set<Modifier> flags = each.getModifiers().getFlags();
        if (each != tree.outer()) {
            Check.due("1, 2: " + name + " is told", OWN.contains(name), true);
            Check.due("1: " + name + " is private", flags.contains(Modifier.PRIVATE), true);
            Check.due("2: " + name + " is static", flags.contains(Modifier.STATIC), true);
        }
        classes++;
        int fields = 0;
        for (Tree member : each.getMembers()) {
            if (member instanceof VariableTree field && !field.getModifiers().getFlags().contains(Modifier.STATIC)) {
                fields++;
            }
            lookAtMember(each, member);
        }
        Check.due("11: fields of " + name, fields <= 20, true);
        return super.visitClass(each, p);
    }

    private void lookAtMember(ClassTree owner, Tree member) {
        boolean isOuter = owner == tree.outer();
        if (member instanceof VariableTree field) {
            String name = field.getName().toString();
            Set<Modifier> flags = field.getModifiers().getFlags();
            Check.due("1: private or NONE: " + name, flags.contains(Modifier.PRIVATE) != name.equals("NONE"), true);
            if (flags.contains(Modifier.STATIC)) {
                Check.due("5: static and final: " + name, flags.contains(Modifier.FINAL), true);
                Check.due("5: a constant: " + name, String.valueOf(field.getType()), "int");
            }
        } else if (member instanceof MethodTree m) {
            boolean isPublic = m.getModifiers().getFlags().contains(Modifier.PUBLIC);
            boolean isPrivate = m.getModifiers().getFlags().contains(Modifier.PRIVATE);
            Check.due("1: public or private: " + m.getName(), isPublic && isOuter || isPrivate, true);
            Check.due("1: a name of its own: " + m.getName(),
                isPublic || m.getReturnType() == null || !face.contains(m.getName().toString()), true);
        } else {
            Check.due("5: no initialiser block", member instanceof ClassTree, true);
        }
    }

    private static String nameOf(Element e) {
        return e.getEnclosingElement() + "." + e.getSimpleName();
    }

    @Override
    public Void visitMethod(MethodTree m, Void p) {
        method = nameOf(tree.meaning(m));
        calls.putIfAbsent(method, new HashSet<>());
        Check.due("11: parameters of " + method, m.getParameters().size() <= 7, true);
        Check.due("11: lines of " + method, tree.lines(m) <= 60, true);
        Check.due("6: throws of " + method, m.getThrows().size(), method.equals("TriedLines.done") ? 1 : 0);
        Check.due("6: a name of Object's " + method, Set.of("equals", "hashCode", "toString").contains(m.getName().toString()),
            false);
        super.visitMethod(m, p);
        method = "";
        return null;
    }

    @Override
    public Void visitVariable(VariableTree v, Void p) {
        String type = tree.typeOf(v.getType());
        String own = type.replace("TriedLines.", "").replace("[]", "");
        Check.due("3: type " + type + " of " + v.getName(), TYPES.contains(type) || OWN.contains(own), true);
        return super.visitVariable(v, p);
    }

    @Override
    public Void visitMethodInvocation(MethodInvocationTree call, Void p) {
        call(tree.meaning(call));
        if (tree.meaning(call).getSimpleName().contentEquals("arraycopy")) {
            Check.due("4: arrays of numbers", tree.typeOf(call.getArguments().get(0)), "int[]");
            Check.due("4: arrays of numbers", tree.typeOf(call.getArguments().get(2)), "int[]");
        }
        return super.visitMethodInvocation(call, p);
    }

    private void call(Element called) {
        String name = nameOf(called);
        Check.due("4: " + name, name.startsWith("TriedLines.") || LIBRARY.contains(name), true);
        Check.due("4: an Exact one: " + name, name.endsWith("Exact"), false);
        calls.computeIfAbsent(method, m -> new HashSet<>()).add(name);
    }

    @Override
    public Void visitNewClass(NewClassTree made, Void p) {
        String name = made.getIdentifier().toString();
        Check.due("4, 6: new " + name, OWN.contains(name) || THROWN.contains(name), true);
        Check.due("2: no class without a name", made.getClassBody() == null, true);
        Check.due("12: made with the object or thrown: " + name + " in " + method,
            method.isEmpty() || method.endsWith(">") || THROWN.contains(name), true);
        return super.visitNewClass(made, p);
    }

    @Override
    public Void visitNewArray(NewArrayTree made, Void p) {
        Check.due("3: one dimension", made.getDimensions().size(), 1);
        for (Tree length : made.getDimensions()) {
            boolean isConstant = length.toString().matches("[A-Z_]+( [*/] [A-Z_0-9]+)*");
            Check.due("7, 12: a length told by constants: " + length, isConstant, true);
        }
        return super.visitNewArray(made, p);
    }

    @Override
    public Void visitThrow(ThrowTree thrown, Void p) {
        Check.due("6: thrown in " + method, thrown.getExpression().toString(), "new NoSuchElementException()");
        Check.due("6: thrown where the document says", method, "TriedLines.done");
        return super.visitThrow(thrown, p);
    }

    @Override
    public Void visitBinary(BinaryTree b, Void p) {
        boolean isText = tree.typeOf(b.getLeftOperand()).equals("java.lang.String")
            || tree.typeOf(b.getRightOperand()).equals("java.lang.String");
        Check.due("6, 10: texts in " + b, isText, false);
        if (b.getKind() == Tree.Kind.DIVIDE || b.getKind() == Tree.Kind.REMAINDER) {
            boolean isLookedAt = b.getRightOperand().toString().matches("[A-Z_]+|[1-9]\\d*|sets|perLine|plan\\.cores");
            Check.due("7: a divisor that is looked at: " + b, isLookedAt, true);
        }
        return super.visitBinary(b, p);
    }

    @Override
    public Void visitForLoop(ForLoopTree loop, Void p) {
        Check.due("9: an end: " + loop.getCondition(), String.valueOf(loop.getCondition()).contains("<")
            || String.valueOf(loop.getCondition()).contains(">="), true);
        return super.visitForLoop(loop, p);
    }

    @Override
    public Void visitWhileLoop(WhileLoopTree loop, Void p) {
        Check.due("9: an end: " + loop.getCondition(), loop.getCondition().toString().contains("< end"), true);
        return super.visitWhileLoop(loop, p);
    }
}
