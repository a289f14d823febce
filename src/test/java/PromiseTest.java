import java.lang.reflect.Constructor;
import java.lang.reflect.Field;
import java.lang.reflect.Method;
import java.lang.reflect.Modifier;
import java.util.Arrays;
import java.util.Set;
import java.util.TreeSet;
import java.util.function.IntConsumer;
import java.util.function.Supplier;

/** The promises one by one: ordinary inputs, the document's edges, and wrong inputs. */
public final class PromiseTest {
    private static final Class<?> NO_TREE = IllegalStateException.class;
    private static final Class<?> NO_SUCH = IndexOutOfBoundsException.class;
    private static final Class<?> BAD_END = IllegalArgumentException.class;
    private static final int[] WRONG_POINTS = {-1, 40, 64, Integer.MIN_VALUE, Integer.MAX_VALUE};

    private static String promise = "";
    private static int checks = 0;
    private static int wrong = 0;

    private interface Call {
        void run();
    }

    public static void main(String[] args) {
        face();
        promise1();
        promise2();
        promise3();
        promise4();
        promise5Fit();
        promise5Build();
        promise6();
        promise7();
        promise8();
        promise9();
        promise10();
        promise11();
        promise12();
        promise13();
        promise14();
        promise15();
        numbers();
        noTree();
        wrongNodes();
        throwingChangesNothing();
        largest();
        System.out.println(checks + " checks, " + wrong + " wrong");
        if (wrong != 0 || checks == 0) {
            System.exit(1);
        }
    }

    // ---- the graphs that the tests speak of

    private static SkeletonTree graph(int... ends) {
        SkeletonTree tree = new SkeletonTree();
        for (int i = 0; i < ends.length; i += 2) {
            tree.edge(ends[i], ends[i + 1]);
        }
        return tree;
    }

    private static SkeletonTree built(int... ends) {
        SkeletonTree tree = graph(ends);
        tree.build();
        return tree;
    }

    private static SkeletonTree triangle() {
        return built(0, 1, 1, 2, 2, 0);
    }

    /** A ring of four with a chord: ring {0, 1}, bond {2}, ring {3, 4}. */
    private static SkeletonTree chordedSquare() {
        return built(0, 1, 1, 2, 2, 0, 2, 3, 3, 0);
    }

    private static SkeletonTree fourPoints() {
        return built(0, 1, 0, 2, 0, 3, 1, 2, 1, 3, 2, 3);
    }

    /** Rigid, and at each of three of its edges something else hangs instead of the edge. */
    private static SkeletonTree mixed() {
        return built(
                10, 11, 10, 12, 11, 12, // 0 .. 2: edges of the rigid node
                10, 20, 20, 13, // 3, 4: a ring instead of 10-13
                11, 13, 11, 13, 13, 11, // 5 .. 7: a bond instead of 11-13
                12, 30, 30, 31, 31, 13, 12, 13); // 8 .. 11: a bond with an edge and a ring instead of 12-13
    }

    // ---- checks

    private static void due(String what, Object got, Object want) {
        checks++;
        if (!got.equals(want)) {
            wrong++;
            System.out.println(promise + ": " + what + " answered " + got + ", due is " + want);
        }
    }

    private static void dueThrow(String what, Class<?> want, Call call) {
        Object got = "nothing";
        try {
            call.run();
        } catch (RuntimeException e) {
            got = e.getClass();
        }
        due(what + " throws", got, want);
    }

    private static void dueItems(SkeletonTree tree, int node, int... want) {
        int[] got = new int[tree.size(node)];
        for (int i = 0; i < got.length; i++) {
            got[i] = tree.item(node, i);
        }
        due("items of " + node, Arrays.toString(got), Arrays.toString(want));
        dueThrow("item " + got.length + " of " + node, NO_SUCH, () -> tree.item(node, got.length));
    }

    private static void duePoints(SkeletonTree tree, int node, Integer... want) {
        Set<Integer> got = new TreeSet<>();
        for (int p = 0; p < 40; p++) {
            if (tree.has(node, p)) {
                got.add(p);
            }
        }
        due("points of " + node, got, new TreeSet<>(Arrays.asList(want)));
        due("points(" + node + ")", tree.points(node), want.length);
    }

    private static void dueUp(SkeletonTree tree, int node, int up, int lesser, int greater) {
        due("up(" + node + ")", tree.up(node), up);
        due("joint(" + node + ", false)", tree.joint(node, false), lesser);
        due("joint(" + node + ", true)", tree.joint(node, true), greater);
    }

    // ---- the promises

    private static void face() {
        promise = "face";
        due("NONE", SkeletonTree.NONE, -1);
        due("BOND", SkeletonTree.BOND, 0);
        due("RING", SkeletonTree.RING, 1);
        due("RIGID", SkeletonTree.RIGID, 2);
        due("modifiers", Modifier.toString(SkeletonTree.class.getModifiers()), "public final");
        Set<String> got = new TreeSet<>();
        for (Constructor<?> c : SkeletonTree.class.getDeclaredConstructors()) {
            got.add(c.toGenericString());
        }
        for (Method m : SkeletonTree.class.getDeclaredMethods()) {
            if (!Modifier.isPrivate(m.getModifiers()) && !m.isSynthetic()) {
                got.add(m.toGenericString().replace("SkeletonTree.", "").replace("java.lang.", ""));
            }
        }
        for (Field f : SkeletonTree.class.getDeclaredFields()) {
            if (!Modifier.isPrivate(f.getModifiers()) && !f.isSynthetic()) {
                got.add(f.getName());
            }
        }
        String both = " throws IllegalStateException,IndexOutOfBoundsException";
        due("members", got, new TreeSet<>(Arrays.asList(
                "BOND", "NONE", "RIGID", "RING", "public SkeletonTree()",
                "public int edge(int,int) throws IllegalArgumentException,IndexOutOfBoundsException",
                "public void drop(int) throws IndexOutOfBoundsException",
                "public int edges()", "public int build()",
                "public int kind(int)" + both, "public int size(int)" + both,
                "public int points(int)" + both, "public int item(int,int)" + both,
                "public int up(int)" + both, "public int joint(int,boolean)" + both,
                "public int nodeOf(int) throws IllegalStateException",
                "public boolean has(int,int)" + both, "public boolean isPair(int,int)" + both,
                "public boolean comeApart(int,int)" + both)));
    }

    private static void promise1() {
        promise = "promise 1";
        SkeletonTree tree = new SkeletonTree();
        due("edges()", tree.edges(), 0);
        dueThrow("kind(0)", NO_TREE, () -> tree.kind(0));
        due("build()", tree.build(), -1);
        dueThrow("nodeOf(0)", NO_TREE, () -> tree.nodeOf(0));
        dueThrow("drop(0)", NO_SUCH, () -> tree.drop(0));
        SkeletonTree other = triangle();
        due("edges() beside another object", new SkeletonTree().edges(), 0);
        due("edges() of the other", other.edges(), 3);
    }

    private static void promise2() {
        promise = "promise 2";
        SkeletonTree tree = new SkeletonTree();
        due("edge(0, 39)", tree.edge(0, 39), 0);
        due("edge(39, 0)", tree.edge(39, 0), 1);
        due("edge(0, 39) again", tree.edge(0, 39), 2);
        tree.drop(1);
        due("edge behind a drop", tree.edge(1, 2), 3);
        for (int p : WRONG_POINTS) {
            dueThrow("edge(" + p + ", 3)", BAD_END, () -> tree.edge(p, 3));
            dueThrow("edge(3, " + p + ")", BAD_END, () -> tree.edge(3, p));
            dueThrow("edge(" + p + ", " + p + ")", BAD_END, () -> tree.edge(p, p));
        }
        dueThrow("edge(0, 0)", BAD_END, () -> tree.edge(0, 0));
        dueThrow("edge(39, 39)", BAD_END, () -> tree.edge(39, 39));
        due("the number behind throws", tree.edge(5, 6), 4);

        SkeletonTree full = new SkeletonTree();
        for (int e = 0; e < 100; e++) {
            due("edge " + e, full.edge(e % 39, 39), e);
        }
        dueThrow("the 101st edge", NO_SUCH, () -> full.edge(0, 1));
        dueThrow("the 101st edge with a wrong end", BAD_END, () -> full.edge(0, 40));
        dueThrow("the 101st edge with one end twice", BAD_END, () -> full.edge(7, 7));
        full.drop(99);
        full.drop(0);
        dueThrow("an edge when 100 were made and two dropped", NO_SUCH, () -> full.edge(0, 1));
        due("edges()", full.edges(), 98);
    }

    private static void promise3() {
        promise = "promise 3";
        SkeletonTree tree = graph(0, 1, 1, 2, 2, 0, 2, 3, 3, 0);
        for (int e : new int[] {-1, 5, 99, 100, 101, Integer.MIN_VALUE, Integer.MAX_VALUE}) {
            dueThrow("drop(" + e + ")", NO_SUCH, () -> tree.drop(e));
        }
        tree.drop(2);
        dueThrow("drop(2) again", NO_SUCH, () -> tree.drop(2));
        due("build() without the chord", tree.build(), 1);
        due("size(0) without the chord", tree.size(0), 4);
        tree.drop(4);
        dueThrow("size(0) behind drop", NO_TREE, () -> tree.size(0));
        due("build() of a path", tree.build(), -1);
        tree.edge(3, 0);
        due("build() with a new edge", tree.build(), 1);
        due("nodeOf(4)", tree.nodeOf(4), -1);
        due("nodeOf(5)", tree.nodeOf(5), 0);
        SkeletonTree full = new SkeletonTree();
        for (int e = 0; e < 100; e++) {
            full.edge(1, 2);
        }
        full.drop(99);
        dueThrow("drop(99) again", NO_SUCH, () -> full.drop(99));
        dueThrow("drop(100)", NO_SUCH, () -> full.drop(100));
    }

    private static void promise4() {
        promise = "promise 4";
        SkeletonTree tree = new SkeletonTree();
        for (int e = 0; e < 5; e++) {
            due("edges()", tree.edges(), e);
            tree.edge(e, e + 1);
        }
        tree.drop(0);
        due("edges() behind drop(0)", tree.edges(), 4);
        dueThrow("drop(0)", NO_SUCH, () -> tree.drop(0));
        dueThrow("edge(1, 1)", BAD_END, () -> tree.edge(1, 1));
        due("edges() behind throws", tree.edges(), 4);
        tree.drop(4);
        tree.drop(2);
        due("edges()", tree.edges(), 2);
        due("edges() behind build", triangle().edges(), 3);
    }

    private static void promise5Fit() {
        promise = "promise 5, fit";
        due("no edge", graph().build(), -1);
        due("one edge", graph(0, 1).build(), -1);
        due("two edges, same ends", graph(0, 1, 0, 1).build(), -1);
        due("three edges, same ends", graph(0, 1, 1, 0, 0, 1).build(), 1);
        due("a path", graph(0, 1, 1, 2, 2, 3).build(), -1);
        due("a path, doubled", graph(0, 1, 0, 1, 1, 2, 1, 2).build(), -1);
        due("a triangle", graph(0, 1, 1, 2, 2, 0).build(), 1);
        due("two triangles", graph(0, 1, 1, 2, 2, 0, 3, 4, 4, 5, 5, 3).build(), -1);
        due("two bonds", graph(0, 1, 0, 1, 0, 1, 2, 3, 2, 3, 2, 3).build(), -1);
        due("two triangles at a point", graph(0, 1, 1, 2, 2, 0, 2, 3, 3, 4, 4, 2).build(), -1);
        due("a triangle and an edge more", graph(0, 1, 1, 2, 2, 0, 2, 39).build(), -1);
        due("two triangles and an edge between", graph(0, 1, 1, 2, 2, 0, 3, 4, 4, 5, 5, 3, 2, 3).build(), -1);
        due("two triangles and two edges between", graph(0, 1, 1, 2, 2, 0, 3, 4, 4, 5, 5, 3, 2, 3, 0, 5).build(), 5);
        due("points 37 .. 39", graph(37, 38, 38, 39, 39, 37).build(), 1);
        due("two triangles at point 39", graph(39, 38, 38, 37, 37, 39, 39, 0, 0, 1, 1, 39).build(), -1);
        SkeletonTree two = graph(0, 1, 1, 2, 2, 0);
        two.drop(1);
        due("two edges left of three", two.build(), -1);
    }

    private static void promise5Build() {
        promise = "promise 5";
        SkeletonTree tree = chordedSquare();
        due("build() again", tree.build(), 3);
        due("kind(2) behind the second build", tree.kind(2), SkeletonTree.RING);
        tree.edge(0, 5);
        dueThrow("kind(0) behind edge", NO_TREE, () -> tree.kind(0));
        due("build(), not fit", tree.build(), -1);
        dueThrow("kind(0) behind a build in vain", NO_TREE, () -> tree.kind(0));
        due("build(), not fit, again", tree.build(), -1);
        tree.edge(5, 2);
        due("build(), fit again", tree.build(), 4);
        due("mixed", mixed().build(), 5);
        due("K4", fourPoints().build(), 1);
        due("a ring of 5", graph(0, 1, 1, 2, 2, 3, 3, 4, 4, 0).build(), 1);
    }

    private static void promise6() {
        promise = "promise 6";
        SkeletonTree tree = mixed();
        int[] want = {SkeletonTree.RIGID, SkeletonTree.RING, SkeletonTree.BOND, SkeletonTree.BOND, SkeletonTree.RING};
        for (int node = 0; node < want.length; node++) {
            due("kind(" + node + ")", tree.kind(node), want[node]);
        }
        due("three edges", built(3, 4, 3, 4, 3, 4).kind(0), SkeletonTree.BOND);
        due("triangle", triangle().kind(0), SkeletonTree.RING);
        due("ring of 6", built(0, 1, 1, 2, 2, 3, 3, 4, 4, 5, 5, 0).kind(0), SkeletonTree.RING);
        due("K4", fourPoints().kind(0), SkeletonTree.RIGID);
    }

    private static void promise7() {
        promise = "promise 7";
        SkeletonTree tree = mixed();
        int[] want = {6, 3, 4, 3, 4};
        for (int node = 0; node < want.length; node++) {
            due("size(" + node + ")", tree.size(node), want[node]);
        }
        due("a bond of five", built(3, 4, 3, 4, 3, 4, 4, 3, 4, 3).size(0), 5);
        due("ring of 6", built(0, 1, 1, 2, 2, 3, 3, 4, 4, 5, 5, 0).size(0), 6);
    }

    private static void promise8() {
        promise = "promise 8";
        SkeletonTree tree = mixed();
        int[] want = {4, 3, 2, 2, 4};
        for (int node = 0; node < want.length; node++) {
            due("points(" + node + ")", tree.points(node), want[node]);
        }
        due("ring of 6", built(0, 1, 1, 2, 2, 3, 3, 4, 4, 5, 5, 0).points(0), 6);
        due("points 38 and 39", built(38, 39, 39, 38, 38, 39).points(0), 2);
    }

    private static void promise9() {
        promise = "promise 9";
        SkeletonTree tree = mixed();
        dueItems(tree, 0, 0, 1, 2, -3, -4, -5);
        dueItems(tree, 1, 3, 4, -2);
        dueItems(tree, 2, 5, 6, 7, -2);
        dueItems(tree, 3, 11, -2, -6);
        dueItems(tree, 4, 8, 9, 10, -5);
        dueThrow("item(0, -1)", NO_SUCH, () -> tree.item(0, -1));
        dueThrow("item(0, max)", NO_SUCH, () -> tree.item(0, Integer.MAX_VALUE));
        dueThrow("item(0, min)", NO_SUCH, () -> tree.item(0, Integer.MIN_VALUE));
        dueThrow("item(5, 0)", NO_SUCH, () -> tree.item(5, 0));
        SkeletonTree gap = graph(0, 1, 0, 1, 0, 1, 0, 1, 0, 1);
        gap.drop(0);
        gap.drop(3);
        gap.build();
        dueItems(gap, 0, 1, 2, 4);
        // A node whose edges are all joints: K4 with a ring instead of each edge.
        SkeletonTree hollow = built(0, 10, 10, 1, 0, 11, 11, 2, 0, 12, 12, 3, 1, 13, 13, 2, 1, 14, 14, 3, 2, 15, 15, 3);
        dueItems(hollow, 0, 0, 1, -3);
        dueItems(hollow, 1, -2, -4, -5, -6, -7, -8);
        dueItems(hollow, 6, 10, 11, -3);
    }

    private static void promise10() {
        promise = "promise 10";
        SkeletonTree tree = mixed();
        int[] want = {-1, 0, 0, 0, 3};
        for (int node = 0; node < want.length; node++) {
            due("up(" + node + ")", tree.up(node), want[node]);
        }
        due("of one node", triangle().up(0), -1);
    }

    private static void promise11() {
        promise = "promise 11";
        SkeletonTree tree = mixed();
        dueUp(tree, 0, -1, -1, -1);
        dueUp(tree, 1, 0, 10, 13);
        dueUp(tree, 2, 0, 11, 13);
        dueUp(tree, 3, 0, 12, 13);
        dueUp(tree, 4, 3, 12, 13);
        // The edges' ends in the other order, and the greater point first.
        SkeletonTree back = built(39, 7, 7, 0, 39, 0, 3, 39, 0, 3);
        dueUp(back, 1, 0, 0, 39);
        dueUp(back, 2, 1, 0, 39);
    }

    private static void promise12() {
        promise = "promise 12";
        SkeletonTree tree = mixed();
        int[] want = {0, 0, 0, 1, 1, 2, 2, 2, 4, 4, 4, 3};
        for (int e = 0; e < want.length; e++) {
            due("nodeOf(" + e + ")", tree.nodeOf(e), want[e]);
        }
        for (int e : new int[] {-1, 12, 99, 100, -100, Integer.MIN_VALUE, Integer.MAX_VALUE}) {
            due("nodeOf(" + e + ")", tree.nodeOf(e), -1);
        }
        tree.drop(7);
        dueThrow("nodeOf(0) without a tree", NO_TREE, () -> tree.nodeOf(0));
        dueThrow("nodeOf(-1) without a tree", NO_TREE, () -> tree.nodeOf(-1));
        tree.build();
        due("nodeOf of a dropped edge", tree.nodeOf(7), -1);
        due("nodeOf(6)", tree.nodeOf(6), 2);
    }

    private static void promise13() {
        promise = "promise 13";
        SkeletonTree tree = mixed();
        duePoints(tree, 0, 10, 11, 12, 13);
        duePoints(tree, 1, 10, 13, 20);
        duePoints(tree, 2, 11, 13);
        duePoints(tree, 3, 12, 13);
        duePoints(tree, 4, 12, 13, 30, 31);
        duePoints(built(0, 39, 39, 0, 0, 39), 0, 0, 39);
        for (int p : WRONG_POINTS) {
            dueThrow("has(0, " + p + ")", NO_SUCH, () -> tree.has(0, p));
        }
    }

    // Each row of pairs asks a new object, since an object is good for 512 calls alone.
    private static void promise14() {
        promise = "promise 14";
        duePairs("triangle", () -> triangle());
        duePairs("bond of three", () -> built(5, 9, 9, 5, 5, 9));
        duePairs("bond of four", () -> built(5, 9, 9, 5, 5, 9, 5, 9), 5, 9);
        duePairs("ring of four", () -> built(0, 1, 1, 2, 2, 3, 3, 0), 0, 2, 1, 3);
        duePairs("ring of five", () -> built(0, 1, 1, 2, 2, 3, 3, 4, 4, 0), 0, 2, 0, 3, 1, 3, 1, 4, 2, 4);
        duePairs("chorded square", () -> chordedSquare(), 0, 2);
        duePairs("triangle with one edge twice", () -> built(0, 1, 1, 2, 2, 0, 1, 0), 0, 1);
        duePairs("K4", () -> fourPoints());
        duePairs("mixed", () -> mixed(), 10, 13, 11, 13, 12, 13, 12, 31, 13, 30);
        duePairs("three ways of two", () -> built(0, 38, 38, 39, 0, 1, 1, 39, 0, 2, 2, 39), 0, 39);
        SkeletonTree tree = chordedSquare();
        for (int p : WRONG_POINTS) {
            dueThrow("isPair(" + p + ", 0)", NO_SUCH, () -> tree.isPair(p, 0));
            dueThrow("isPair(0, " + p + ")", NO_SUCH, () -> tree.isPair(0, p));
            dueThrow("isPair(" + p + ", " + p + ")", NO_SUCH, () -> tree.isPair(p, p));
        }
    }

    private static void duePairs(String what, Supplier<SkeletonTree> maker, int... want) {
        for (int u = 0; u < 40; u++) {
            SkeletonTree tree = maker.get();
            for (int v = 0; v < 40; v++) {
                due(what + ": isPair(" + u + ", " + v + ")", tree.isPair(u, v), isAmong(u, v, want));
            }
        }
    }

    private static boolean isAmong(int u, int v, int... pairs) {
        for (int i = 0; i < pairs.length; i += 2) {
            if (u == pairs[i] && v == pairs[i + 1] || v == pairs[i] && u == pairs[i + 1]) {
                return true;
            }
        }
        return false;
    }

    private static void promise15() {
        promise = "promise 15";
        dueApart("triangle", () -> triangle());
        dueApart("bond of four", () -> built(5, 9, 9, 5, 5, 9, 5, 9));
        dueApart("ring of four", () -> built(0, 1, 1, 2, 2, 3, 3, 0), 0, 2, 1, 3);
        dueApart("ring of five", () -> built(0, 1, 1, 2, 2, 3, 3, 4, 4, 0), 0, 2, 0, 3, 1, 3, 1, 4, 2, 4);
        dueApart("chorded square", () -> chordedSquare(), 1, 3);
        dueApart("K4", () -> fourPoints());
        // Three ways that meet at the ends alone hold the ends, but not what lies on the ways.
        dueApart("three ways of two", () -> built(0, 38, 38, 39, 0, 1, 1, 39, 0, 2, 2, 39), 38, 1, 38, 2, 1, 2);
        // A prism: rigid, so that points without an edge between them still hold.
        dueApart("prism", () -> built(0, 1, 1, 2, 2, 0, 3, 4, 4, 5, 5, 3, 0, 3, 1, 4, 2, 5));
        dueApart("mixed", () -> mixed(),
                20, 11, 20, 12, 20, 30, 20, 31, 10, 30, 10, 31, 11, 30, 11, 31, 12, 31, 13, 30);
        SkeletonTree tree = chordedSquare();
        for (int p : WRONG_POINTS) {
            dueThrow("comeApart(" + p + ", 0)", NO_SUCH, () -> tree.comeApart(p, 0));
            dueThrow("comeApart(0, " + p + ")", NO_SUCH, () -> tree.comeApart(0, p));
            dueThrow("comeApart(" + p + ", " + p + ")", NO_SUCH, () -> tree.comeApart(p, p));
        }
    }

    private static void dueApart(String what, Supplier<SkeletonTree> maker, int... want) {
        for (int u = 0; u < 40; u++) {
            SkeletonTree tree = maker.get();
            for (int v = 0; v < 40; v++) {
                due(what + ": comeApart(" + u + ", " + v + ")", tree.comeApart(u, v), isAmong(u, v, want));
            }
        }
    }

    private static void numbers() {
        promise = "numbers";
        // Edge 2 lies beyond the joint at 2-3, but not in the node next to it: that node and all
        // beyond it come first, though the node at 3-0 has a lesser edge than the one at 2-3.
        SkeletonTree tree = built(
                0, 1, 1, 2, // 0, 1: a ring with joints at 2-3 and 3-0
                4, 5, // 2: an edge of the ring 2-4-5-3
                3, 0, // 3: in the bond at 3-0
                2, 3, // 4: in the bond at 2-3
                3, 6, 6, 0, // 5, 6: a ring at 3-0
                2, 4, 5, 3); // 7, 8: the rest of the ring 2-4-5-3
        due("build()", tree.build(), 5);
        dueItems(tree, 0, 0, 1, -3, -5);
        dueItems(tree, 1, 4, -2, -4);
        dueItems(tree, 2, 2, 7, 8, -3);
        dueItems(tree, 3, 3, -2, -6);
        dueItems(tree, 4, 5, 6, -5);
        // Node 0 has the edge with the least number that is there still.
        SkeletonTree dropped = graph(0, 2, 2, 3, 3, 0, 0, 2, 0, 1, 1, 2);
        dropped.drop(0);
        due("build() behind drop", dropped.build(), 3);
        dueItems(dropped, 0, 1, 2, -3);
        dueItems(dropped, 1, 3, -2, -4);
        dueItems(dropped, 2, 4, 5, -3);
    }

    private static void noTree() {
        promise = "no tree";
        SkeletonTree[] bare = {new SkeletonTree(), graph(0, 1, 1, 2, 2, 0), built(0, 1, 1, 2), chordedSquare(), chordedSquare()};
        bare[3].drop(4);
        bare[4].edge(0, 1);
        for (SkeletonTree tree : bare) {
            for (int node : new int[] {0, -1, 98, Integer.MAX_VALUE}) {
                dueThrow("kind", NO_TREE, () -> tree.kind(node));
                dueThrow("size", NO_TREE, () -> tree.size(node));
                dueThrow("points", NO_TREE, () -> tree.points(node));
                dueThrow("item", NO_TREE, () -> tree.item(node, -1));
                dueThrow("up", NO_TREE, () -> tree.up(node));
                dueThrow("joint", NO_TREE, () -> tree.joint(node, true));
                dueThrow("nodeOf", NO_TREE, () -> tree.nodeOf(node));
                dueThrow("has", NO_TREE, () -> tree.has(node, 40));
                dueThrow("isPair", NO_TREE, () -> tree.isPair(node, 40));
                dueThrow("comeApart", NO_TREE, () -> tree.comeApart(node, 40));
                dueThrow("isPair of one", NO_TREE, () -> tree.isPair(1, 1));
                dueThrow("comeApart of one", NO_TREE, () -> tree.comeApart(1, 1));
            }
        }
    }

    private static void wrongNodes() {
        promise = "wrong nodes";
        for (SkeletonTree tree : new SkeletonTree[] {triangle(), mixed()}) {
            int nodes = tree.build();
            for (int node : new int[] {-1, nodes, 97, 98, Integer.MIN_VALUE, Integer.MAX_VALUE}) {
                dueThrow("kind", NO_SUCH, () -> tree.kind(node));
                dueThrow("size", NO_SUCH, () -> tree.size(node));
                dueThrow("points", NO_SUCH, () -> tree.points(node));
                dueThrow("item", NO_SUCH, () -> tree.item(node, 0));
                dueThrow("up", NO_SUCH, () -> tree.up(node));
                dueThrow("joint, lesser", NO_SUCH, () -> tree.joint(node, false));
                dueThrow("joint, greater", NO_SUCH, () -> tree.joint(node, true));
                dueThrow("has", NO_SUCH, () -> tree.has(node, 0));
            }
        }
    }

    private static void throwingChangesNothing() {
        promise = "a call that throws changes nothing";
        SkeletonTree tree = mixed();
        IntConsumer same = step -> {
            due("kind(0), step " + step, tree.kind(0), SkeletonTree.RIGID);
            due("edges(), step " + step, tree.edges(), 12);
            due("nodeOf(11), step " + step, tree.nodeOf(11), 3);
        };
        dueThrow("edge(40, 0)", BAD_END, () -> tree.edge(40, 0));
        same.accept(1);
        dueThrow("edge(3, 3)", BAD_END, () -> tree.edge(3, 3));
        same.accept(2);
        dueThrow("drop(12)", NO_SUCH, () -> tree.drop(12));
        same.accept(3);
        dueThrow("drop(-1)", NO_SUCH, () -> tree.drop(-1));
        same.accept(4);
        dueThrow("kind(5)", NO_SUCH, () -> tree.kind(5));
        dueThrow("item(0, 6)", NO_SUCH, () -> tree.item(0, 6));
        dueThrow("has(0, 40)", NO_SUCH, () -> tree.has(0, 40));
        same.accept(5);
        due("the next edge's number", tree.edge(0, 1), 12);

        SkeletonTree full = new SkeletonTree();
        for (int e = 0; e < 100; e++) {
            full.edge(1, 2);
        }
        full.build();
        dueThrow("the 101st edge", NO_SUCH, () -> full.edge(1, 3));
        due("size(0) behind it", full.size(0), 100);
        full.drop(50);
        full.build();
        dueThrow("drop(50) again", NO_SUCH, () -> full.drop(50));
        due("size(0) behind that", full.size(0), 99);
    }

    /** The most nodes that 100 edges can make: a polygon of 40 in triangles, 23 of its sides doubled. */
    private static void largest() {
        promise = "largest";
        SkeletonTree tree = new SkeletonTree();
        for (int p = 0; p < 40; p++) {
            tree.edge(p, (p + 1) % 40);
        }
        for (int p = 2; p < 39; p++) {
            tree.edge(0, p);
        }
        for (int p = 0; p < 23; p++) {
            tree.edge(p, p + 1);
        }
        due("edges()", tree.edges(), 100);
        due("build()", tree.build(), 98);
        int rings = 0;
        for (int node = 0; node < 98; node++) {
            due("size(" + node + ")", tree.size(node), 3);
            rings += tree.kind(node);
        }
        due("rings", rings, 38);
        SkeletonTree ring = new SkeletonTree();
        for (int p = 0; p < 40; p++) {
            ring.edge(p * 7 % 40, (p + 1) * 7 % 40);
        }
        due("a ring of 40", ring.build(), 1);
        due("its size", ring.size(0), 40);
        due("its points", ring.points(0), 40);
    }
}
