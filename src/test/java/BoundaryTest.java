import java.util.Arrays;
import java.util.HashSet;
import java.util.Set;

/**
 * The document's boundary cases: each sentence that names one has a test of its own here, which
 * bears the sentence as its name. No object is asked more than 512 times.
 */
public final class BoundaryTest {
    private static final Class<?> NO_TREE = IllegalStateException.class;
    private static final Class<?> NO_SUCH = IndexOutOfBoundsException.class;
    private static final Class<?> BAD_END = IllegalArgumentException.class;
    private static final int LEAST = Integer.MIN_VALUE;
    private static final int MOST = Integer.MAX_VALUE;
    private static final int[] NO_POINTS = {-1, 40, 41, 63, 64, 104, LEAST, MOST};

    private static final Set<String> sentences = new HashSet<>();
    private static String sentence = "";
    private static int checks = 0;
    private static int wrong = 0;

    private interface Call {
        void run();
    }

    public static void main(String[] args) {
        use();
        face();
        graphTerms();
        fitTerms();
        apartTerms();
        kindTerms();
        numberTerms();
        treeTerms();
        exceptionTerms();
        newObject();
        edge();
        drop();
        edges();
        build();
        kind();
        size();
        points();
        item();
        up();
        joint();
        nodeOf();
        has();
        isPair();
        comeApart();
        System.out.println(sentences.size() + " sentences, " + checks + " checks, " + wrong + " wrong");
        if (wrong != 0 || checks == 0) {
            System.exit(1);
        }
    }

    // ---- checks

    /** A test of one sentence; it is wrong too when it checks nothing or ends with an exception. */
    private static void test(String words, Call body) {
        sentence = words;
        int before = checks;
        try {
            body.run();
        } catch (RuntimeException e) {
            due("the test, which ended with " + e + ",", "an exception", "none");
        }
        due("the test", checks > before ? "something" : "nothing", "something");
        due("the name", sentences.add(words) ? "new" : "used twice", "new");
    }

    private static void due(String what, Object got, Object want) {
        checks++;
        if (!got.equals(want)) {
            wrong++;
            System.out.println("\"" + sentence + "\": " + what + " answered " + got + ", due is " + want);
        }
    }

    private static void dueThrow(String what, Class<?> want, Call call) {
        Object got = "nothing";
        try {
            call.run();
        } catch (RuntimeException e) {
            got = e.getClass();
        }
        due(what + " throws", got, want);
    }

    private static void dueItems(SkeletonTree tree, int node, int... want) {
        int[] got = new int[tree.size(node)];
        for (int i = 0; i < got.length; i++) {
            got[i] = tree.item(node, i);
        }
        due("the items of node " + node, Arrays.toString(got), Arrays.toString(want));
    }

    /** The ten questions about a tree, each with arguments that are good for a triangle's. */
    private static void dueNoTree(String when, SkeletonTree tree) {
        dueThrow("kind " + when, NO_TREE, () -> tree.kind(0));
        dueThrow("size " + when, NO_TREE, () -> tree.size(0));
        dueThrow("points " + when, NO_TREE, () -> tree.points(0));
        dueThrow("item " + when, NO_TREE, () -> tree.item(0, 0));
        dueThrow("up " + when, NO_TREE, () -> tree.up(0));
        dueThrow("joint " + when, NO_TREE, () -> tree.joint(0, false));
        dueThrow("nodeOf " + when, NO_TREE, () -> tree.nodeOf(0));
        dueThrow("has " + when, NO_TREE, () -> tree.has(0, 0));
        dueThrow("isPair " + when, NO_TREE, () -> tree.isPair(0, 1));
        dueThrow("comeApart " + when, NO_TREE, () -> tree.comeApart(0, 1));
    }

    // ---- graphs

    private static SkeletonTree graph(int... ends) {
        SkeletonTree tree = new SkeletonTree();
        for (int i = 0; i < ends.length; i += 2) {
            tree.edge(ends[i], ends[i + 1]);
        }
        return tree;
    }

    private static SkeletonTree built(int... ends) {
        SkeletonTree tree = graph(ends);
        tree.build();
        return tree;
    }

    private static SkeletonTree triangle() {
        return built(0, 1, 1, 2, 2, 0);
    }

    /** Ring {0, 1}, bond {2}, ring {3, 4}, with joints at 0-2. */
    private static SkeletonTree chordedSquare() {
        return built(0, 1, 1, 2, 2, 0, 2, 3, 3, 0);
    }

    private static SkeletonTree fourPoints() {
        return built(0, 1, 0, 2, 0, 3, 1, 2, 1, 3, 2, 3);
    }

    /** Edges with the ends 0 and 39, not built. */
    private static SkeletonTree bond(int size) {
        SkeletonTree tree = new SkeletonTree();
        for (int e = 0; e < size; e++) {
            tree.edge(e % 2 * 39, 39 - e % 2 * 39);
        }
        return tree;
    }

    /** The points 0 .. size - 1 in a ring, not built; edge e is e-(e + 1). */
    private static SkeletonTree ring(int size) {
        SkeletonTree tree = new SkeletonTree();
        for (int p = 0; p < size; p++) {
            tree.edge(p, (p + 1) % size);
        }
        return tree;
    }

    /**
     * The most nodes: a ring of 40 with the chords 0-2 .. 0-38, edges 40 .. 76, and its first 23
     * sides doubled, edges 77 .. 99. Not built.
     */
    private static SkeletonTree largest() {
        SkeletonTree tree = ring(40);
        for (int p = 2; p < 39; p++) {
            tree.edge(0, p);
        }
        for (int p = 0; p < 23; p++) {
            tree.edge(p, p + 1);
        }
        return tree;
    }

    /** As many four-point graphs without the edge 0-1, which they have in common, five edges each. */
    private static SkeletonTree fours(int parts) {
        SkeletonTree tree = new SkeletonTree();
        for (int part = 0; part < parts; part++) {
            int a = 2 + 2 * part;
            int b = a + 1;
            tree.edge(0, a);
            tree.edge(0, b);
            tree.edge(1, a);
            tree.edge(1, b);
            tree.edge(a, b);
        }
        return tree;
    }

    // ---- what it is, and the public face

    private static void use() {
        test("An object is used for at most 512 calls after it has been made", () -> {
            SkeletonTree asked = largest();
            asked.build();
            for (int call = 102; call <= 511; call++) {
                asked.item(call % 98, call % 3);
            }
            due("the 512th call, item(97, 2),", asked.item(97, 2), -98);

            SkeletonTree refused = ring(3);
            for (int call = 4; call <= 511; call++) {
                dueThrow("drop(3)", NO_SUCH, () -> refused.drop(3));
            }
            due("the 512th call, build(),", refused.build(), 1);

            SkeletonTree rebuilt = ring(40);
            for (int call = 41; call <= 511; call++) {
                due("build()", rebuilt.build(), 1);
            }
            due("the 512th call, size(0),", rebuilt.size(0), 40);
        });
    }

    private static void face() {
        test("NONE = -1", () -> due("NONE", SkeletonTree.NONE, -1));
        test("BOND = 0, RING = 1, RIGID = 2", () -> {
            due("BOND", SkeletonTree.BOND, 0);
            due("RING", SkeletonTree.RING, 1);
            due("RIGID", SkeletonTree.RIGID, 2);
        });
    }

    // ---- terms

    private static void graphTerms() {
        test("THE GRAPH has POINTS 0 .. 39", () -> {
            SkeletonTree ends = built(0, 39, 39, 1, 1, 0);
            due("points(0)", ends.points(0), 3);
            due("has(0, 0)", ends.has(0, 0), true);
            due("has(0, 39)", ends.has(0, 39), true);
            SkeletonTree all = ring(40);
            due("build() of all points", all.build(), 1);
            due("points(0) of all points", all.points(0), 40);
        });
        test("and EDGES, numbered 0, 1, .. as they come", () -> {
            SkeletonTree tree = new SkeletonTree();
            due("the first", tree.edge(38, 39), 0);
            due("the second", tree.edge(0, 1), 1);
            due("the third", tree.edge(38, 39), 2);
        });
        test("100 at most", () -> {
            SkeletonTree tree = bond(99);
            due("the hundredth", tree.edge(0, 39), 99);
            due("edges()", tree.edges(), 100);
            dueThrow("one more", NO_SUCH, () -> tree.edge(0, 39));
            due("build() of 100", tree.build(), 1);
            due("nodeOf(99)", tree.nodeOf(99), 0);
        });
        test("an edge joins two points, its ENDS, not one with itself", () -> {
            SkeletonTree tree = graph(0, 1, 1, 2);
            for (int p = 0; p < 40; p++) {
                int point = p;
                dueThrow("edge(" + p + ", " + p + ")", BAD_END, () -> tree.edge(point, point));
            }
            due("edges()", tree.edges(), 2);
        });
        test("there may be several with the same ends", () -> {
            SkeletonTree tree = graph(7, 8, 8, 7, 7, 8, 7, 8);
            due("edges()", tree.edges(), 4);
            due("build()", tree.build(), 1);
            dueItems(tree, 0, 0, 1, 2, 3);
        });
        test("An edge that is dropped is gone", () -> {
            SkeletonTree tree = chordedSquare();
            tree.drop(2);
            due("edges()", tree.edges(), 4);
            due("build()", tree.build(), 1);
            dueItems(tree, 0, 0, 1, 3, 4);
            due("comeApart at what was the chord", tree.comeApart(0, 2), true);
        });
        test("its number stays used", () -> {
            SkeletonTree tree = graph(0, 1);
            tree.drop(0);
            due("the next edge", tree.edge(0, 1), 1);
            tree.drop(1);
            due("the one behind it", tree.edge(0, 1), 2);
            SkeletonTree full = bond(100);
            for (int e = 0; e < 100; e++) {
                full.drop(e);
            }
            due("edges() of a hundred dropped", full.edges(), 0);
            dueThrow("an edge behind a hundred dropped", NO_SUCH, () -> full.edge(0, 1));
        });
        test("Points without edges don't count", () -> {
            SkeletonTree tree = graph(0, 1, 1, 2, 2, 0, 2, 39);
            due("build() with a point at one edge", tree.build(), -1);
            tree.drop(3);
            due("build() when that edge is dropped", tree.build(), 1);
            due("points(0)", tree.points(0), 3);
            due("has(0, 39)", tree.has(0, 39), false);
            due("comeApart(0, 39)", tree.comeApart(0, 39), false);
        });
    }

    private static void fitTerms() {
        test("It is FIT when it has three edges at least", () -> {
            due("no edge", graph().build(), -1);
            due("one edge", graph(0, 1).build(), -1);
            due("two edges", graph(0, 1, 0, 1).build(), -1);
            due("three edges", graph(0, 1, 0, 1, 0, 1).build(), 1);
            SkeletonTree fewer = graph(0, 1, 0, 1, 0, 1);
            fewer.drop(2);
            due("two edges of three made", fewer.build(), -1);
            fewer.edge(0, 1);
            due("three edges of four made", fewer.build(), 1);
        });
        test("any two of its points are joined by a way along edges", () -> {
            due("two triangles", graph(0, 1, 1, 2, 2, 0, 37, 38, 38, 39, 39, 37).build(), -1);
            due("two bonds", graph(0, 1, 0, 1, 0, 1, 38, 39, 38, 39, 38, 39).build(), -1);
            due("a triangle and an edge", graph(0, 1, 1, 2, 2, 0, 38, 39).build(), -1);
        });
        test("also without any one other point (and the edges there)", () -> {
            due("two triangles at point 0", graph(0, 1, 1, 2, 2, 0, 0, 38, 38, 39, 39, 0).build(), -1);
            due("two triangles at point 20", graph(20, 1, 1, 2, 2, 20, 20, 38, 38, 39, 39, 20).build(), -1);
            due("two triangles at point 39", graph(39, 1, 1, 2, 2, 39, 39, 37, 37, 38, 38, 39).build(), -1);
            due("a way of two, doubled", graph(0, 1, 0, 1, 1, 2, 1, 2).build(), -1);
            due("three edges in a row", graph(0, 1, 1, 2, 2, 3).build(), -1);
            due("three edges at one point", graph(0, 1, 0, 2, 0, 3).build(), -1);
            due("an edge at one end of a bond", graph(0, 1, 0, 1, 0, 1, 1, 2).build(), -1);
            due("two points, so that there is no other", graph(0, 39, 39, 0, 0, 39).build(), 1);
            due("three points, so that two are left", graph(0, 39, 39, 1, 1, 0).build(), 1);
        });
    }

    private static void apartTerms() {
        test("an edge with both as its ends belongs to none but itself", () -> {
            due("four edges alone", built(3, 4, 3, 4, 3, 4, 3, 4).isPair(3, 4), true);
            due("two beside a way of two", built(0, 1, 1, 0, 1, 2, 2, 0).isPair(0, 1), true);
            due("one beside a way of two", triangle().isPair(0, 1), false);
            due("one beside two ways of two", chordedSquare().isPair(0, 2), true);
        });
        test("two parts with two edges at least in each", () -> {
            due("three edges, one and two", bondBuilt(3).isPair(0, 39), false);
            due("four edges, two and two", bondBuilt(4).isPair(0, 39), true);
            due("a triangle, one and two", triangle().isPair(1, 2), false);
            due("a ring of four, two and two", built(0, 1, 1, 2, 2, 3, 3, 0).isPair(1, 3), true);
            due("a ring of four, one and three", built(0, 1, 1, 2, 2, 3, 3, 0).isPair(0, 1), false);
            due("K4, one and five", fourPoints().isPair(0, 1), false);
            // Three sets of edges, and any two of them can be one part.
            due("K4 with an edge doubled", built(0, 1, 0, 2, 0, 3, 1, 2, 1, 3, 2, 3, 0, 1).isPair(0, 1), true);
        });
        test("the same new edge in both: a JOINT", () -> {
            SkeletonTree tree = fours(2);
            due("build()", tree.build(), 2);
            dueItems(tree, 0, 0, 1, 2, 3, 4, -3);
            dueItems(tree, 1, 5, 6, 7, 8, 9, -2);
        });
        test("the joints being edges like others", () -> {
            // A triangle whose three edges are joints.
            SkeletonTree tree = built(0, 1, 0, 1, 1, 2, 1, 2, 2, 0, 2, 0);
            due("build()", tree.build(), 4);
            dueItems(tree, 0, 0, 1, -3);
            dueItems(tree, 1, -2, -4, -5);
            dueItems(tree, 2, 2, 3, -3);
            dueItems(tree, 3, 4, 5, -3);
        });
        test("until none has a pair", () -> {
            SkeletonTree tree = largest();
            due("build()", tree.build(), 98);
            int all = 0;
            for (int node = 0; node < 98; node++) {
                due("size(" + node + ")", tree.size(node), 3);
                all += tree.size(node);
            }
            due("edges and sides of joints", all, 100 + 2 * 97);
        });
    }

    private static SkeletonTree bondBuilt(int size) {
        SkeletonTree tree = bond(size);
        tree.build();
        return tree;
    }

    private static void kindTerms() {
        test("a BOND, three edges with the same ends", () -> {
            SkeletonTree tree = bondBuilt(3);
            due("kind(0)", tree.kind(0), SkeletonTree.BOND);
            due("size(0)", tree.size(0), 3);
            SkeletonTree joints = fours(3);
            due("build() of three joints alone", joints.build(), 4);
            due("kind(1) of three joints alone", joints.kind(1), SkeletonTree.BOND);
            dueItems(joints, 1, -2, -4, -5);
        });
        test("a RING of three edges", () -> {
            SkeletonTree tree = triangle();
            due("kind(0)", tree.kind(0), SkeletonTree.RING);
            due("size(0)", tree.size(0), 3);
        });
        test("RIGID: more than three points, no pair", () -> {
            SkeletonTree four = fourPoints();
            due("build() of four points", four.build(), 1);
            due("kind(0) of four points", four.kind(0), SkeletonTree.RIGID);
            // Forty points with three edges at each: two rings of twenty, and their points joined.
            SkeletonTree most = new SkeletonTree();
            for (int p = 0; p < 20; p++) {
                most.edge(p, (p + 1) % 20);
                most.edge(20 + p, 20 + (p + 1) % 20);
                most.edge(p, 20 + p);
            }
            due("build() of forty points", most.build(), 1);
            due("kind(0) of forty points", most.kind(0), SkeletonTree.RIGID);
            due("points(0) of forty points", most.points(0), 40);
            due("size(0) of forty points", most.size(0), 60);
            SkeletonTree square = built(0, 1, 1, 2, 2, 3, 3, 0);
            due("kind(0) of four points with pairs", square.kind(0), SkeletonTree.RING);
        });
        test("As long as two bonds, or two rings, have a joint in common, they become one", () -> {
            SkeletonTree ring = ring(4);
            due("build() of a ring of four", ring.build(), 1);
            due("size(0) of a ring of four", ring.size(0), 4);
            SkeletonTree bond = bond(4);
            due("build() of a bond of four", bond.build(), 1);
            due("size(0) of a bond of four", bond.size(0), 4);
            SkeletonTree joints = fours(4);
            due("build() of four joints at two points", joints.build(), 5);
            dueItems(joints, 1, -2, -4, -5, -6);
            SkeletonTree both = fours(2);
            both.edge(0, 1);
            both.edge(0, 1);
            due("build() of two joints and two edges", both.build(), 3);
            dueItems(both, 1, 10, 11, -2, -4);
        });
        test("have a joint in common", () -> {
            SkeletonTree tree = chordedSquare();
            due("build()", tree.build(), 3);
            due("kind(0)", tree.kind(0), SkeletonTree.RING);
            due("kind(1)", tree.kind(1), SkeletonTree.BOND);
            due("kind(2)", tree.kind(2), SkeletonTree.RING);
        });
        test("two bonds, or two rings", () -> {
            SkeletonTree tree = fours(2);
            due("build()", tree.build(), 2);
            due("kind(0)", tree.kind(0), SkeletonTree.RIGID);
            due("kind(1)", tree.kind(1), SkeletonTree.RIGID);
        });
        test("bonds and rings of any size", () -> {
            for (int size = 3; size <= 100; size++) {
                SkeletonTree bond = bond(size);
                due("build() of a bond of " + size, bond.build(), 1);
                due("kind(0) of a bond of " + size, bond.kind(0), SkeletonTree.BOND);
                due("size(0) of a bond of " + size, bond.size(0), size);
            }
            for (int size = 3; size <= 40; size++) {
                SkeletonTree ring = ring(size);
                due("build() of a ring of " + size, ring.build(), 1);
                due("kind(0) of a ring of " + size, ring.kind(0), SkeletonTree.RING);
                due("size(0) of a ring of " + size, ring.size(0), size);
            }
        });
        test("In whatever order all this is done, the same pieces come", () -> {
            // The points' names say in which order the pairs are found; no answer here tells them.
            due("build()", renamed(1, 0).build(), 15);
            String want = tell(renamed(1, 0));
            for (int times : new int[] {1, 3, 7, 9, 11, 13, 17, 19, 21, 23, 27, 29, 31, 33, 37, 39}) {
                for (int more = 0; more < 40; more++) {
                    due("point p as " + times + "p + " + more, tell(renamed(times, more)), want);
                }
            }
        });
        test("the joints, each in two of them, make a TREE of the nodes", () -> {
            SkeletonTree tree = largest();
            tree.build();
            int joints = 0;
            for (int node = 0; node < 98; node++) {
                for (int i = 0; i < 3; i++) {
                    joints += tree.item(node, i) < 0 ? 1 : 0;
                }
            }
            due("sides of joints", joints, 2 * 97);
        });
    }

    /** A graph of rings, bonds and rigid nodes whose points bear other names. */
    private static SkeletonTree renamed(int times, int more) {
        int[] ends = {
            0, 1, 1, 2, 2, 3, 3, 4, 4, 5, 5, 0, // 0 .. 5: a ring of six
            0, 2, 2, 4, 4, 0, 2, 0, // 6 .. 9: chords of it, the first of them twice
            0, 6, 0, 7, 2, 6, 2, 7, 6, 7, // 10 .. 14: a rigid piece at 0-2
            2, 8, 8, 4, 8, 9, 9, 4, // 15 .. 18: rings at 2-4 and at 8-4
            4, 10, 4, 11, 5, 10, 5, 11, 10, 11, 10, 12, 12, 13, 13, 11}; // 19 .. 26: a rigid piece, a ring
        for (int i = 0; i < ends.length; i++) {
            ends[i] = (times * ends[i] + more) % 40;
        }
        return built(ends);
    }

    private static String tell(SkeletonTree tree) {
        StringBuilder told = new StringBuilder();
        int count = tree.build();
        for (int node = 0; node < count; node++) {
            told.append(tree.kind(node)).append('/').append(tree.points(node)).append('/').append(tree.up(node));
            for (int i = 0; i < tree.size(node); i++) {
                told.append(' ').append(tree.item(node, i));
            }
            told.append("; ");
        }
        return told.toString();
    }

    private static void numberTerms() {
        test("Node 0 is that which has the edge with the least number", () -> {
            due("nodeOf(0)", chordedSquare().nodeOf(0), 0);
            SkeletonTree chordFirst = built(0, 2, 0, 1, 1, 2, 2, 3, 3, 0);
            due("kind(0) when the chord is edge 0", chordFirst.kind(0), SkeletonTree.BOND);
            dueItems(chordFirst, 0, 0, -3, -4);
            SkeletonTree dropped = bond(100);
            for (int e = 0; e < 97; e++) {
                dropped.drop(e);
            }
            due("build() when 97, 98 and 99 are left", dropped.build(), 1);
            dueItems(dropped, 0, 97, 98, 99);
            SkeletonTree later = graph(0, 2, 0, 1, 1, 2, 2, 3, 3, 0, 0, 2);
            later.drop(0);
            later.build();
            due("nodeOf(1) when edge 0 is dropped", later.nodeOf(1), 0);
            due("kind(0) when edge 0 is dropped", later.kind(0), SkeletonTree.RING);
        });
        test("first to that beyond whose joint the edge with the least number lies", () -> {
            // A bond as node 0 with three rings; the middle one has the least edge behind the bond's.
            SkeletonTree tree = built(0, 1, 2, 0, 3, 0, 4, 0, 4, 1, 2, 1, 3, 1);
            due("build()", tree.build(), 4);
            dueItems(tree, 1, 1, 5, -2);
            dueItems(tree, 2, 2, 6, -2);
            dueItems(tree, 3, 3, 4, -2);
            // The least edge lies not in the next node but in the one beyond it.
            SkeletonTree far = built(
                    0, 1, 1, 2, // 0, 1: a ring with joints at 0-3 and 2-3
                    4, 5, // 2: an edge of the ring beyond the bond at 2-3
                    0, 3, // 3: the bond at 0-3
                    2, 3, // 4: the bond at 2-3
                    0, 6, 6, 3, // 5, 6: a ring beyond the bond at 0-3
                    2, 4, 5, 3); // 7, 8: the rest of the ring beyond the bond at 2-3
            due("nodeOf(4)", far.nodeOf(4), 1);
            due("nodeOf(2)", far.nodeOf(2), 2);
            due("nodeOf(3)", far.nodeOf(3), 3);
            due("nodeOf(5)", far.nodeOf(5), 4);
        });
        test("(then to all that lie beyond there)", () -> {
            // A triangle with a bond at each side, and a ring beyond each bond.
            SkeletonTree tree = built(
                    0, 1, 1, 2, 2, 0, // 0 .. 2: an edge in each bond
                    0, 3, 3, 1, 1, 4, 4, 2, 2, 5, 5, 0); // 3 .. 8: the rings
            due("build()", tree.build(), 7);
            due("nodeOf(0)", tree.nodeOf(0), 0);
            dueItems(tree, 1, -2, -4, -6);
            due("nodeOf(1)", tree.nodeOf(1), 2);
            due("nodeOf(5)", tree.nodeOf(5), 3);
            due("nodeOf(2)", tree.nodeOf(2), 4);
            due("nodeOf(7)", tree.nodeOf(7), 5);
            due("nodeOf(3)", tree.nodeOf(3), 6);
        });
        test("UP from a node is that from which one came to it", () -> {
            SkeletonTree tree = largest();
            tree.build();
            due("up(1)", tree.up(1), 0);
            due("up(2)", tree.up(2), 1);
            due("up(3)", tree.up(3), 1);
            due("up(4)", tree.up(4), 3);
            due("up(97)", tree.up(97), 96);
        });
    }

    private static void treeTerms() {
        test("build makes the tree of the graph as it is", () -> {
            SkeletonTree tree = largest();
            due("build() of the most nodes", tree.build(), 98);
            for (int e = 40; e < 100; e++) {
                tree.drop(e);
            }
            due("build() of the ring that is left", tree.build(), 1);
            due("kind(0)", tree.kind(0), SkeletonTree.RING);
            due("size(0)", tree.size(0), 40);
            dueThrow("kind(1)", NO_SUCH, () -> tree.kind(1));
            due("nodeOf(40)", tree.nodeOf(40), -1);
            due("isPair(0, 1)", tree.isPair(0, 1), false);
            for (int e = 3; e < 40; e++) {
                tree.drop(e);
            }
            due("build() of three edges in a row", tree.build(), -1);
            dueThrow("kind(0) of three edges in a row", NO_TREE, () -> tree.kind(0));

            SkeletonTree less = ring(5);
            due("build() of a ring of five", less.build(), 1);
            due("points(0) of a ring of five", less.points(0), 5);
            less.drop(2);
            less.drop(3);
            less.drop(4);
            less.edge(0, 2);
            due("build() of three of its points", less.build(), 1);
            due("points(0) of three of its points", less.points(0), 3);
            due("has(0, 3) of three of its points", less.has(0, 3), false);
        });
        test("edge and drop take it away again", () -> {
            SkeletonTree edge = triangle();
            edge.edge(0, 1);
            dueNoTree("behind edge", edge);
            SkeletonTree drop = fourPoints();
            drop.drop(5);
            dueNoTree("behind drop", drop);
            due("build() behind drop", drop.build(), 3);
            due("kind(2) behind it", drop.kind(2), SkeletonTree.RING);
            SkeletonTree back = triangle();
            back.drop(back.edge(5, 6));
            dueNoTree("when the graph is what it was", back);
        });
    }

    private static void exceptionTerms() {
        test("IllegalStateException: there is no tree", () -> {
            dueNoTree("of a new object", new SkeletonTree());
            dueNoTree("before build", graph(0, 1, 1, 2, 2, 0));
            dueNoTree("behind a build of no edges", built());
            dueNoTree("behind a build of two edges", built(0, 1, 0, 1));
            dueNoTree("behind a build of what is not joined", built(0, 1, 1, 2, 2, 0, 3, 4));
        });
        test("IndexOutOfBoundsException: there is no such node", () -> {
            SkeletonTree least = triangle();
            SkeletonTree most = largest();
            most.build();
            dueNoNode(least, -1, 1, 2, 97, 98, LEAST, MOST);
            dueNoNode(most, -1, 98, 99, 100, LEAST, MOST);
        });
        test("IndexOutOfBoundsException: there is no such point (0 .. 39)", () -> {
            for (int p : NO_POINTS) {
                SkeletonTree tree = chordedSquare();
                dueThrow("has(0, " + p + ")", NO_SUCH, () -> tree.has(0, p));
                dueThrow("isPair(" + p + ", 0)", NO_SUCH, () -> tree.isPair(p, 0));
                dueThrow("isPair(0, " + p + ")", NO_SUCH, () -> tree.isPair(0, p));
                dueThrow("comeApart(" + p + ", 0)", NO_SUCH, () -> tree.comeApart(p, 0));
                dueThrow("comeApart(0, " + p + ")", NO_SUCH, () -> tree.comeApart(0, p));
            }
            // A point without edges is a point all the same.
            for (int p = 4; p < 40; p++) {
                SkeletonTree tree = chordedSquare();
                due("has(0, " + p + ")", tree.has(0, p), false);
                due("isPair(0, " + p + ")", tree.isPair(0, p), false);
                due("comeApart(" + p + ", 0)", tree.comeApart(p, 0), false);
            }
        });
        test("IndexOutOfBoundsException: there is no such item", () -> {
            SkeletonTree tree = triangle();
            for (int i : new int[] {-1, 3, 4, 100, LEAST, MOST}) {
                dueThrow("item(0, " + i + ")", NO_SUCH, () -> tree.item(0, i));
            }
            due("item(0, 2)", tree.item(0, 2), 2);
        });
        test("A call that throws changes nothing", () -> {
            SkeletonTree tree = chordedSquare();
            dueThrow("edge(0, 40)", BAD_END, () -> tree.edge(0, 40));
            dueChorded("edge with a wrong end", tree);
            dueThrow("edge(1, 1)", BAD_END, () -> tree.edge(1, 1));
            dueChorded("edge with one end", tree);
            dueThrow("drop(5)", NO_SUCH, () -> tree.drop(5));
            dueChorded("drop of no edge", tree);
            dueThrow("drop(-1)", NO_SUCH, () -> tree.drop(-1));
            dueChorded("drop of a number below 0", tree);
            dueThrow("kind(3)", NO_SUCH, () -> tree.kind(3));
            dueThrow("size(3)", NO_SUCH, () -> tree.size(3));
            dueThrow("points(3)", NO_SUCH, () -> tree.points(3));
            dueThrow("item(0, 3)", NO_SUCH, () -> tree.item(0, 3));
            dueThrow("up(3)", NO_SUCH, () -> tree.up(3));
            dueThrow("joint(3, true)", NO_SUCH, () -> tree.joint(3, true));
            dueThrow("has(0, 40)", NO_SUCH, () -> tree.has(0, 40));
            dueThrow("isPair(0, 40)", NO_SUCH, () -> tree.isPair(0, 40));
            dueThrow("comeApart(40, 0)", NO_SUCH, () -> tree.comeApart(40, 0));
            dueChorded("questions in vain", tree);
            due("the next edge", tree.edge(0, 1), 5);

            SkeletonTree full = bondBuilt(100);
            dueThrow("the 101st edge", NO_SUCH, () -> full.edge(0, 1));
            due("size(0) behind the 101st edge", full.size(0), 100);
            due("edges() behind the 101st edge", full.edges(), 100);
            full.drop(0);
            full.build();
            dueThrow("drop(0) again", NO_SUCH, () -> full.drop(0));
            due("size(0) behind a second drop", full.size(0), 99);
            due("edges() behind a second drop", full.edges(), 99);

            SkeletonTree bare = graph(0, 1, 1, 2, 2, 0);
            dueThrow("kind(0) without a tree", NO_TREE, () -> bare.kind(0));
            dueThrow("kind(0) without a tree, again", NO_TREE, () -> bare.kind(0));
            due("build() behind it", bare.build(), 1);
        });
        test("of several exceptions that a call names the one named first is thrown", () -> {
            SkeletonTree full = bond(100);
            for (int p : NO_POINTS) {
                dueThrow("the 101st edge, from " + p, BAD_END, () -> full.edge(p, 0));
                dueThrow("the 101st edge, to " + p, BAD_END, () -> full.edge(0, p));
            }
            dueThrow("the 101st edge, with one end", BAD_END, () -> full.edge(0, 0));
            for (int no : NO_POINTS) {
                SkeletonTree tree = graph(0, 1, 1, 2, 2, 0);
                dueThrow("kind(" + no + ")", NO_TREE, () -> tree.kind(no));
                dueThrow("size(" + no + ")", NO_TREE, () -> tree.size(no));
                dueThrow("points(" + no + ")", NO_TREE, () -> tree.points(no));
                dueThrow("item(" + no + ", 0)", NO_TREE, () -> tree.item(no, 0));
                dueThrow("item(0, " + no + ")", NO_TREE, () -> tree.item(0, no));
                dueThrow("up(" + no + ")", NO_TREE, () -> tree.up(no));
                dueThrow("joint(" + no + ", false)", NO_TREE, () -> tree.joint(no, false));
                dueThrow("joint(" + no + ", true)", NO_TREE, () -> tree.joint(no, true));
                dueThrow("has(" + no + ", 0)", NO_TREE, () -> tree.has(no, 0));
                dueThrow("has(0, " + no + ")", NO_TREE, () -> tree.has(0, no));
                dueThrow("isPair(" + no + ", 0)", NO_TREE, () -> tree.isPair(no, 0));
                dueThrow("isPair(0, " + no + ")", NO_TREE, () -> tree.isPair(0, no));
                dueThrow("comeApart(" + no + ", 0)", NO_TREE, () -> tree.comeApart(no, 0));
                dueThrow("comeApart(0, " + no + ")", NO_TREE, () -> tree.comeApart(0, no));
            }
        });
    }

    private static void dueNoNode(SkeletonTree tree, int... none) {
        for (int node : none) {
            dueThrow("kind(" + node + ")", NO_SUCH, () -> tree.kind(node));
            dueThrow("size(" + node + ")", NO_SUCH, () -> tree.size(node));
            dueThrow("points(" + node + ")", NO_SUCH, () -> tree.points(node));
            dueThrow("item(" + node + ", 0)", NO_SUCH, () -> tree.item(node, 0));
            dueThrow("up(" + node + ")", NO_SUCH, () -> tree.up(node));
            dueThrow("joint(" + node + ", false)", NO_SUCH, () -> tree.joint(node, false));
            dueThrow("joint(" + node + ", true)", NO_SUCH, () -> tree.joint(node, true));
            dueThrow("has(" + node + ", 0)", NO_SUCH, () -> tree.has(node, 0));
        }
    }

    private static void dueChorded(String behind, SkeletonTree tree) {
        due("edges() behind " + behind, tree.edges(), 5);
        due("kind(1) behind " + behind, tree.kind(1), SkeletonTree.BOND);
        due("item(2, 1) behind " + behind, tree.item(2, 1), 4);
        due("isPair(0, 2) behind " + behind, tree.isPair(0, 2), true);
        due("comeApart(1, 3) behind " + behind, tree.comeApart(1, 3), true);
    }

    // ---- the promises

    private static void newObject() {
        test("Promise 1: No edges", () -> {
            SkeletonTree tree = new SkeletonTree();
            due("edges()", tree.edges(), 0);
            dueThrow("drop(0)", NO_SUCH, () -> tree.drop(0));
            due("build()", tree.build(), -1);
            SkeletonTree used = triangle();
            due("edges() beside another object", new SkeletonTree().edges(), 0);
            due("edges() of the other", used.edges(), 3);
        });
        test("Promise 1: no tree", () -> dueNoTree("of a new object", new SkeletonTree()));
    }

    private static void edge() {
        test("Promise 2: An edge with two ends: its number", () -> {
            SkeletonTree tree = new SkeletonTree();
            due("edge(0, 39)", tree.edge(0, 39), 0);
            due("edge(39, 0)", tree.edge(39, 0), 1);
            for (int e = 2; e < 100; e++) {
                due("edge " + e, tree.edge(38, 39), e);
            }
        });
        test("Promise 2: IllegalArgumentException when an end is not 0 .. 39", () -> {
            SkeletonTree tree = new SkeletonTree();
            for (int p : NO_POINTS) {
                dueThrow("edge(" + p + ", 0)", BAD_END, () -> tree.edge(p, 0));
                dueThrow("edge(39, " + p + ")", BAD_END, () -> tree.edge(39, p));
            }
            dueThrow("edge(-1, 40)", BAD_END, () -> tree.edge(-1, 40));
            due("edges()", tree.edges(), 0);
        });
        test("Promise 2: or both are one", () -> {
            SkeletonTree tree = new SkeletonTree();
            dueThrow("edge(0, 0)", BAD_END, () -> tree.edge(0, 0));
            dueThrow("edge(39, 39)", BAD_END, () -> tree.edge(39, 39));
            dueThrow("edge(40, 40)", BAD_END, () -> tree.edge(40, 40));
            dueThrow("edge(-1, -1)", BAD_END, () -> tree.edge(-1, -1));
            due("edge(38, 39)", tree.edge(38, 39), 0);
        });
        test("Promise 2: IndexOutOfBoundsException when 100 were made", () -> {
            SkeletonTree tree = bond(99);
            due("edge 99", tree.edge(0, 39), 99);
            dueThrow("one more", NO_SUCH, () -> tree.edge(0, 39));
            tree.drop(99);
            dueThrow("one more when the last is dropped", NO_SUCH, () -> tree.edge(0, 39));
            for (int e = 0; e < 99; e++) {
                tree.drop(e);
            }
            dueThrow("one more when all are dropped", NO_SUCH, () -> tree.edge(0, 39));
        });
    }

    private static void drop() {
        test("Promise 3: An edge is dropped", () -> {
            SkeletonTree tree = bond(100);
            tree.drop(0);
            tree.drop(99);
            due("edges()", tree.edges(), 98);
            tree.build();
            due("size(0)", tree.size(0), 98);
            due("item(0, 0)", tree.item(0, 0), 1);
            due("item(0, 97)", tree.item(0, 97), 98);
        });
        test("Promise 3: IndexOutOfBoundsException when there is none with this number", () -> {
            SkeletonTree tree = graph(0, 1, 1, 2, 2, 0);
            for (int e : new int[] {-1, 3, 99, 100, LEAST, MOST}) {
                dueThrow("drop(" + e + ")", NO_SUCH, () -> tree.drop(e));
            }
            SkeletonTree full = bond(100);
            dueThrow("drop(100) of 100", NO_SUCH, () -> full.drop(100));
            dueThrow("drop(-1) of 100", NO_SUCH, () -> full.drop(-1));
        });
        test("Promise 3: (any more)", () -> {
            SkeletonTree tree = bond(100);
            for (int e : new int[] {0, 50, 99}) {
                tree.drop(e);
                dueThrow("drop(" + e + ") again", NO_SUCH, () -> tree.drop(e));
            }
            due("edges()", tree.edges(), 97);
        });
    }

    private static void edges() {
        test("Promise 4: How many edges there are", () -> {
            SkeletonTree tree = new SkeletonTree();
            due("edges() at first", tree.edges(), 0);
            for (int e = 0; e < 100; e++) {
                tree.edge(1, 2);
                due("edges() with edge " + e, tree.edges(), e + 1);
            }
            for (int e = 0; e < 100; e++) {
                tree.drop(e);
                due("edges() without edge " + e, tree.edges(), 99 - e);
            }
        });
    }

    private static void build() {
        test("Promise 5: The tree: how many nodes", () -> {
            due("one node", graph(0, 1, 0, 1, 0, 1).build(), 1);
            due("the most nodes", largest().build(), 98);
            SkeletonTree twice = chordedSquare();
            due("build() again", twice.build(), 3);
            due("kind(2) behind it", twice.kind(2), SkeletonTree.RING);
        });
        test("Promise 5: NONE, and no tree, when the graph is not fit", () -> {
            SkeletonTree tree = triangle();
            tree.edge(2, 3);
            due("build()", tree.build(), SkeletonTree.NONE);
            dueNoTree("behind it", tree);
            due("build() again", tree.build(), SkeletonTree.NONE);
            dueNoTree("behind that", tree);
            due("edges()", tree.edges(), 4);
            tree.edge(3, 0);
            due("build() when it is fit again", tree.build(), 3);
        });
    }

    private static void kind() {
        test("Promise 6: A node's kind", () -> {
            due("the least bond", bondBuilt(3).kind(0), 0);
            due("the least ring", triangle().kind(0), 1);
            due("the least rigid node", fourPoints().kind(0), 2);
            SkeletonTree most = largest();
            most.build();
            due("the first of 98", most.kind(0), 0);
            due("the last of 98", most.kind(97), 1);
        });
        test("Promise 6: IllegalStateException", () ->
                dueThrow("kind(0)", NO_TREE, () -> graph(0, 1, 1, 2, 2, 0).kind(0)));
        test("Promise 6: IndexOutOfBoundsException", () -> {
            dueThrow("kind(-1)", NO_SUCH, () -> triangle().kind(-1));
            dueThrow("kind(1)", NO_SUCH, () -> triangle().kind(1));
        });
    }

    private static void size() {
        test("Promise 7: How many edges and joints a node has", () -> {
            due("the least bond", bondBuilt(3).size(0), 3);
            due("the greatest bond", bondBuilt(100).size(0), 100);
            SkeletonTree joints = fours(3);
            joints.build();
            due("joints alone", joints.size(1), 3);
            due("edges and a joint", joints.size(3), 6);
        });
        test("Promise 7: IllegalStateException", () ->
                dueThrow("size(0)", NO_TREE, () -> graph(0, 1, 1, 2, 2, 0).size(0)));
        test("Promise 7: IndexOutOfBoundsException", () -> {
            dueThrow("size(-1)", NO_SUCH, () -> triangle().size(-1));
            dueThrow("size(1)", NO_SUCH, () -> triangle().size(1));
        });
    }

    private static void points() {
        test("Promise 8: How many points a node has", () -> {
            due("the greatest bond", bondBuilt(100).points(0), 2);
            due("the least ring", triangle().points(0), 3);
            due("the least rigid node", fourPoints().points(0), 4);
            SkeletonTree ring = ring(40);
            ring.build();
            due("the greatest ring", ring.points(0), 40);
            SkeletonTree joints = fours(3);
            joints.build();
            due("joints alone", joints.points(1), 2);
        });
        test("Promise 8: IllegalStateException", () ->
                dueThrow("points(0)", NO_TREE, () -> graph(0, 1, 1, 2, 2, 0).points(0)));
        test("Promise 8: IndexOutOfBoundsException", () -> {
            dueThrow("points(-1)", NO_SUCH, () -> triangle().points(-1));
            dueThrow("points(1)", NO_SUCH, () -> triangle().points(1));
        });
    }

    private static void item() {
        test("Promise 9: The i-th (0 the first)", () -> {
            SkeletonTree tree = bondBuilt(100);
            for (int i = 0; i < 100; i++) {
                due("item(0, " + i + ")", tree.item(0, i), i);
            }
        });
        test("Promise 9: of a node's edges, as they are numbered", () -> {
            SkeletonTree tree = graph(0, 1, 2, 3, 1, 2, 0, 1, 3, 0);
            tree.drop(0);
            tree.build();
            dueItems(tree, 0, 1, 2, 3, 4);
        });
        test("Promise 9: and behind them of its joints, as the nodes there are numbered", () -> {
            // The node up has the least number, though its joint was made last or first.
            SkeletonTree tree = built(0, 1, 1, 2, 2, 0, 2, 3, 3, 0, 0, 2);
            dueItems(tree, 0, 0, 1, -3);
            dueItems(tree, 1, 2, 5, -2, -4);
            dueItems(tree, 2, 3, 4, -3);
        });
        test("Promise 9: an edge's number, or -2 less the number of the node there", () -> {
            SkeletonTree tree = largest();
            tree.build();
            dueItems(tree, 0, 0, 77, -3);
            due("the joint to node 0", tree.item(1, 0), -2);
            dueItems(tree, 96, 76, -97, -99);
            dueItems(tree, 97, 38, 39, -98);
        });
        test("Promise 9: IllegalStateException", () ->
                dueThrow("item(0, 0)", NO_TREE, () -> graph(0, 1, 1, 2, 2, 0).item(0, 0)));
        test("Promise 9: IndexOutOfBoundsException", () -> {
            SkeletonTree tree = chordedSquare();
            dueThrow("item(-1, 0)", NO_SUCH, () -> tree.item(-1, 0));
            dueThrow("item(3, 0)", NO_SUCH, () -> tree.item(3, 0));
            for (int node = 0; node < 3; node++) {
                int asked = node;
                dueThrow("item(" + node + ", -1)", NO_SUCH, () -> tree.item(asked, -1));
                dueThrow("item(" + node + ", 3)", NO_SUCH, () -> tree.item(asked, 3));
            }
            SkeletonTree full = bondBuilt(100);
            dueThrow("item(0, 100) of 100", NO_SUCH, () -> full.item(0, 100));
        });
    }

    private static void up() {
        test("Promise 10: The node up from a node", () -> {
            SkeletonTree tree = chordedSquare();
            due("up(1)", tree.up(1), 0);
            due("up(2)", tree.up(2), 1);
        });
        test("Promise 10: NONE of node 0", () -> {
            due("up(0) of one node", triangle().up(0), SkeletonTree.NONE);
            due("up(0) of three", chordedSquare().up(0), SkeletonTree.NONE);
        });
        test("Promise 10: IllegalStateException", () ->
                dueThrow("up(0)", NO_TREE, () -> graph(0, 1, 1, 2, 2, 0).up(0)));
        test("Promise 10: IndexOutOfBoundsException", () -> {
            dueThrow("up(-1)", NO_SUCH, () -> triangle().up(-1));
            dueThrow("up(1)", NO_SUCH, () -> triangle().up(1));
        });
    }

    private static void joint() {
        test("Promise 11: The lesser (second false) or greater of the points of the joint up", () -> {
            SkeletonTree tree = built(39, 1, 1, 0, 0, 39, 39, 2, 2, 0);
            for (int node = 1; node <= 2; node++) {
                due("joint(" + node + ", false)", tree.joint(node, false), 0);
                due("joint(" + node + ", true)", tree.joint(node, true), 39);
            }
            SkeletonTree most = largest();
            most.build();
            due("joint(97, false)", most.joint(97, false), 0);
            due("joint(97, true)", most.joint(97, true), 38);
        });
        test("Promise 11: NONE of node 0", () -> {
            due("joint(0, false) of one node", triangle().joint(0, false), SkeletonTree.NONE);
            due("joint(0, true) of one node", triangle().joint(0, true), SkeletonTree.NONE);
            due("joint(0, false) of three", chordedSquare().joint(0, false), SkeletonTree.NONE);
            due("joint(0, true) of three", chordedSquare().joint(0, true), SkeletonTree.NONE);
        });
        test("Promise 11: IllegalStateException", () -> {
            dueThrow("joint(0, false)", NO_TREE, () -> graph(0, 1, 1, 2, 2, 0).joint(0, false));
            dueThrow("joint(0, true)", NO_TREE, () -> graph(0, 1, 1, 2, 2, 0).joint(0, true));
        });
        test("Promise 11: IndexOutOfBoundsException", () -> {
            dueThrow("joint(-1, false)", NO_SUCH, () -> triangle().joint(-1, false));
            dueThrow("joint(1, true)", NO_SUCH, () -> triangle().joint(1, true));
        });
    }

    private static void nodeOf() {
        test("Promise 12: The node that has an edge", () -> {
            SkeletonTree tree = largest();
            tree.build();
            due("nodeOf(0)", tree.nodeOf(0), 0);
            due("nodeOf(77)", tree.nodeOf(77), 0);
            due("nodeOf(39)", tree.nodeOf(39), 97);
            due("nodeOf(76)", tree.nodeOf(76), 96);
            // The side 22-23 stands in a bond, the bond before the chord 0-23 and triangle 67.
            due("nodeOf(99)", tree.nodeOf(99), 65);
        });
        test("Promise 12: NONE when there is no such edge", () -> {
            SkeletonTree tree = graph(0, 1, 1, 2, 2, 0, 5, 6);
            tree.drop(3);
            tree.build();
            for (int e : new int[] {-1, 3, 4, 99, 100, LEAST, MOST}) {
                due("nodeOf(" + e + ")", tree.nodeOf(e), SkeletonTree.NONE);
            }
            SkeletonTree full = bondBuilt(100);
            due("nodeOf(100) of 100", full.nodeOf(100), SkeletonTree.NONE);
            due("nodeOf(-1) of 100", full.nodeOf(-1), SkeletonTree.NONE);
        });
        test("Promise 12: IllegalStateException", () -> {
            for (int e : new int[] {0, -1, 3, 100, LEAST, MOST}) {
                dueThrow("nodeOf(" + e + ")", NO_TREE, () -> graph(0, 1, 1, 2, 2, 0).nodeOf(e));
            }
        });
    }

    private static void has() {
        test("Promise 13: Whether a node has a point", () -> {
            SkeletonTree tree = built(0, 39, 39, 0, 0, 39, 0, 1, 1, 39);
            due("build()", tree.build(), 2);
            due("has(0, 0)", tree.has(0, 0), true);
            due("has(0, 39)", tree.has(0, 39), true);
            due("has(0, 1)", tree.has(0, 1), false);
            due("has(1, 1)", tree.has(1, 1), true);
            due("has(1, 39)", tree.has(1, 39), true);
            due("has(1, 38)", tree.has(1, 38), false);
            SkeletonTree joints = fours(3);
            joints.build();
            due("has(1, 0) of joints alone", joints.has(1, 0), true);
            due("has(1, 2) of joints alone", joints.has(1, 2), false);
        });
        test("Promise 13: IllegalStateException", () -> {
            dueThrow("has(0, 0)", NO_TREE, () -> graph(0, 1, 1, 2, 2, 0).has(0, 0));
            dueThrow("has(1, 40)", NO_TREE, () -> graph(0, 1, 1, 2, 2, 0).has(1, 40));
        });
        test("Promise 13: IndexOutOfBoundsException", () -> {
            dueThrow("has(-1, 0)", NO_SUCH, () -> triangle().has(-1, 0));
            dueThrow("has(1, 0)", NO_SUCH, () -> triangle().has(1, 0));
            dueThrow("has(1, 40)", NO_SUCH, () -> triangle().has(1, 40));
            for (int p : NO_POINTS) {
                dueThrow("has(0, " + p + ")", NO_SUCH, () -> triangle().has(0, p));
            }
        });
    }

    private static void isPair() {
        test("Promise 14: Whether two points are a pair of the graph", () -> {
            SkeletonTree tree = chordedSquare();
            due("isPair(0, 2)", tree.isPair(0, 2), true);
            due("isPair(2, 0)", tree.isPair(2, 0), true);
            due("isPair(0, 1)", tree.isPair(0, 1), false);
            due("isPair(1, 3)", tree.isPair(1, 3), false);
            due("0 and 39, edges alone, three", bondBuilt(3).isPair(0, 39), false);
            due("0 and 39, edges alone, four", bondBuilt(4).isPair(39, 0), true);
        });
        test("Promise 14: of the graph", () -> {
            // Neighbours in a ring are no pair, all others are, across the whole of it too.
            SkeletonTree ring = ring(40);
            ring.build();
            due("isPair(0, 39)", ring.isPair(0, 39), false);
            due("isPair(0, 38)", ring.isPair(0, 38), true);
            due("isPair(19, 39)", ring.isPair(19, 39), true);
            // A point without edges is in no pair.
            due("isPair(8, 9) without edges", bondBuilt(4).isPair(8, 9), false);
            due("isPair(0, 9) without edges", bondBuilt(4).isPair(0, 9), false);
            due("isPair(9, 39) without edges", bondBuilt(4).isPair(9, 39), false);
        });
        test("Promise 14: (one point twice is none)", () -> {
            for (int p = 0; p < 40; p++) {
                due("isPair(" + p + ", " + p + ")", bondBuilt(4).isPair(p, p), false);
                due("isPair(" + p + ", " + p + ") of a square", chordedSquare().isPair(p, p), false);
            }
        });
        test("Promise 14: IllegalStateException", () -> {
            dueThrow("isPair(0, 1)", NO_TREE, () -> graph(0, 1, 1, 2, 2, 0).isPair(0, 1));
            dueThrow("isPair(0, 0)", NO_TREE, () -> graph(0, 1, 1, 2, 2, 0).isPair(0, 0));
            dueThrow("isPair(40, -1)", NO_TREE, () -> graph(0, 1, 1, 2, 2, 0).isPair(40, -1));
        });
        test("Promise 14: IndexOutOfBoundsException", () -> {
            for (int p : NO_POINTS) {
                SkeletonTree tree = chordedSquare();
                dueThrow("isPair(" + p + ", 39)", NO_SUCH, () -> tree.isPair(p, 39));
                dueThrow("isPair(39, " + p + ")", NO_SUCH, () -> tree.isPair(39, p));
                dueThrow("isPair(" + p + ", " + p + ")", NO_SUCH, () -> tree.isPair(p, p));
            }
        });
    }

    private static void comeApart() {
        test("Promise 15: Whether two points of the graph", () -> {
            SkeletonTree tree = chordedSquare();
            due("comeApart(1, 3)", tree.comeApart(1, 3), true);
            due("comeApart(3, 1)", tree.comeApart(3, 1), true);
            due("comeApart(1, 39) without edges", tree.comeApart(1, 39), false);
            due("comeApart(39, 1) without edges", tree.comeApart(39, 1), false);
            due("comeApart(38, 39) without edges", tree.comeApart(38, 39), false);
            SkeletonTree dropped = graph(0, 1, 1, 2, 2, 3, 3, 0, 0, 9, 9, 2);
            dropped.drop(4);
            dropped.drop(5);
            dropped.build();
            due("comeApart(1, 9) when its edges are dropped", dropped.comeApart(1, 9), false);
        });
        test("Promise 15: not one", () -> {
            for (int p = 0; p < 40; p++) {
                due("comeApart(" + p + ", " + p + ")", chordedSquare().comeApart(p, p), false);
            }
        });
        test("Promise 15: that no edge joins", () -> {
            SkeletonTree ring = ring(40);
            ring.build();
            for (int p = 0; p < 40; p++) {
                due("comeApart at edge " + p, ring.comeApart(p, (p + 1) % 40), false);
                due("comeApart two from " + p, ring.comeApart(p, (p + 2) % 40), true);
            }
            due("comeApart(0, 2) at the chord", chordedSquare().comeApart(0, 2), false);
            due("comeApart(0, 39) of a bond", bondBuilt(4).comeApart(0, 39), false);
        });
        test("Promise 15: not joined by any way when some two others (or fewer) are taken away", () -> {
            SkeletonTree square = ring(4);
            square.build();
            due("two others and no more", square.comeApart(0, 2), true);
            // Between the hubs 0 and 39 three ways of two: the hubs need three others.
            SkeletonTree three = built(0, 1, 1, 39, 0, 2, 2, 39, 0, 3, 3, 39);
            due("the hubs of three ways", three.comeApart(0, 39), false);
            due("two on the ways", three.comeApart(1, 3), true);
            // Each of 0, 1, 2 joined with each of 3, 4, 5.
            SkeletonTree rigid = built(0, 3, 0, 4, 0, 5, 1, 3, 1, 4, 1, 5, 2, 3, 2, 4, 2, 5);
            due("two of a rigid node", rigid.comeApart(0, 1), false);
            SkeletonTree fours = fours(2);
            fours.build();
            due("two of different rigid nodes", fours.comeApart(2, 4), true);
            due("the joint's points, no bond there", fours.comeApart(0, 1), false);
        });
        test("Promise 15: IllegalStateException", () -> {
            dueThrow("comeApart(0, 1)", NO_TREE, () -> graph(0, 1, 1, 2, 2, 0).comeApart(0, 1));
            dueThrow("comeApart(0, 0)", NO_TREE, () -> graph(0, 1, 1, 2, 2, 0).comeApart(0, 0));
            dueThrow("comeApart(40, -1)", NO_TREE, () -> graph(0, 1, 1, 2, 2, 0).comeApart(40, -1));
        });
        test("Promise 15: IndexOutOfBoundsException", () -> {
            for (int p : NO_POINTS) {
                SkeletonTree tree = chordedSquare();
                dueThrow("comeApart(" + p + ", 39)", NO_SUCH, () -> tree.comeApart(p, 39));
                dueThrow("comeApart(39, " + p + ")", NO_SUCH, () -> tree.comeApart(39, p));
                dueThrow("comeApart(" + p + ", " + p + ")", NO_SUCH, () -> tree.comeApart(p, p));
            }
        });
    }
}
