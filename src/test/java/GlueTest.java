import java.util.ArrayList;
import java.util.Collections;
import java.util.List;
import java.util.Random;
import java.util.Set;
import java.util.TreeSet;

/**
 * Graphs that are glued together from known bonds, rings and rigid pieces: the class must find
 * these very pieces again. Nothing here takes a graph apart into pieces, so that this test and
 * DocumentTest cannot be wrong in the same way. The seeds are fixed.
 */
public final class GlueTest {
    private static final int POINTS = 40;
    private static final int MOST_EDGES = 100;
    private static final int MOST_CALLS = 512;
    private static final int TREES = 400;

    private static int checks = 0;
    private static int wrong = 0;
    private static int nodes = 0;
    private static int rigidNodes = 0;
    private static int withAllPoints = 0;

    public static void main(String[] args) {
        for (int seed = 0; seed < TREES; seed++) {
            // Seeds that lie close together choose alike at first, so they are spread out.
            compare(new Glued(new Random(seed * 0x9E3779B97F4A7C15L)), "seed " + seed);
        }
        System.out.println(TREES + " trees, " + withAllPoints + " with 40 points, " + nodes + " nodes, "
                + rigidNodes + " of them rigid, " + checks + " checks, " + wrong + " wrong");
        if (wrong != 0 || nodes < 2000 || rigidNodes < 500 || withAllPoints < 50) {
            System.exit(1);
        }
    }

    private static void compare(Glued glued, String name) {
        Subject subject = new Subject(glued.edges);
        due(name, "build()", subject.ask().build(), glued.row.size());
        withAllPoints += glued.points == POINTS ? 1 : 0;
        for (Node node : glued.row) {
            compareNode(subject, node, name);
        }
        for (Link edge : glued.edges) {
            due(name, "nodeOf(" + edge.number + ")", subject.ask().nodeOf(edge.number), edge.owner.number);
        }
        for (int u = 0; u < POINTS; u++) {
            for (int v = 0; v < POINTS; v++) {
                due(name, "isPair(" + u + ", " + v + ")", subject.ask().isPair(u, v), glued.isPair(u, v));
                due(name, "comeApart(" + u + ", " + v + ")", subject.ask().comeApart(u, v), glued.comeApart(u, v));
            }
        }
    }

    private static void compareNode(Subject subject, Node node, String name) {
        int n = node.number;
        nodes++;
        rigidNodes += node.kind == SkeletonTree.RIGID ? 1 : 0;
        due(name, "kind(" + n + ")", subject.ask().kind(n), node.kind);
        due(name, "size(" + n + ")", subject.ask().size(n), node.links.size());
        due(name, "points(" + n + ")", subject.ask().points(n), node.points().size());
        Link up = node.up;
        due(name, "up(" + n + ")", subject.ask().up(n), up == null ? -1 : up.twin.owner.number);
        due(name, "joint(" + n + ", false)", subject.ask().joint(n, false), up == null ? -1 : Math.min(up.a, up.b));
        due(name, "joint(" + n + ", true)", subject.ask().joint(n, true), up == null ? -1 : Math.max(up.a, up.b));
        List<Integer> items = node.items();
        for (int i = 0; i < items.size(); i++) {
            due(name, "item(" + n + ", " + i + ")", subject.ask().item(n, i), items.get(i));
        }
        for (int p = 0; p < POINTS; p++) {
            due(name, "has(" + n + ", " + p + ")", subject.ask().has(n, p), node.points().contains(p));
        }
    }

    private static void due(String name, String call, Object got, Object want) {
        checks++;
        if (!got.equals(want)) {
            wrong++;
            if (wrong < 50) {
                System.out.println(name + ": " + call + " answered " + got + ", due is " + want);
            }
        }
    }

    /** An object under test; before its 513th call a new one takes its place, with the same graph. */
    private static final class Subject {
        private final List<Link> edges;
        private SkeletonTree tree;
        private int calls;

        Subject(List<Link> edges) {
            this.edges = edges;
            begin();
        }

        SkeletonTree ask() {
            if (calls == MOST_CALLS) {
                begin();
                tree.build();
                calls++;
            }
            calls++;
            return tree;
        }

        private void begin() {
            tree = new SkeletonTree();
            for (Link edge : edges) {
                tree.edge(edge.a, edge.b);
            }
            calls = edges.size();
        }
    }

    /** An edge, or one side of a joint, whose other side is its twin. */
    private static final class Link {
        final Node owner;
        int a;
        int b;
        Link twin = null;
        int number = -1;

        Link(Node owner, int a, int b) {
            this.owner = owner;
            this.a = a;
            this.b = b;
        }

        boolean joins(int u, int v) {
            return a == u && b == v || a == v && b == u;
        }
    }

    private static final class Node {
        final int kind;
        final List<Link> links = new ArrayList<>();
        Link up = null;
        int number = -1;

        Node(int kind) {
            this.kind = kind;
        }

        Set<Integer> points() {
            Set<Integer> points = new TreeSet<>();
            for (Link link : links) {
                points.add(link.a);
                points.add(link.b);
            }
            return points;
        }

        List<Integer> items() {
            List<Integer> items = new ArrayList<>();
            List<Integer> beyond = new ArrayList<>();
            for (Link link : links) {
                if (link.twin == null) {
                    items.add(link.number);
                } else {
                    beyond.add(link.twin.owner.number);
                }
            }
            Collections.sort(items);
            Collections.sort(beyond);
            for (int node : beyond) {
                items.add(-2 - node);
            }
            return items;
        }

        /** The least number of an edge here or beyond any joint but the one that was come through. */
        int leastEdge(Link through) {
            int least = MOST_EDGES;
            for (Link link : links) {
                if (link != through) {
                    least = Math.min(least, link.twin == null ? link.number : link.twin.owner.leastEdge(link.twin));
                }
            }
            return least;
        }
    }

    /** Pieces that nothing takes apart, with their points 0, 1, .. */
    private static final class Shapes {
        static Node any(Random chance) {
            int size = 3 + chance.nextInt(4);
            switch (chance.nextInt(7)) {
                case 0:
                case 1:
                    return bond(size);
                case 2:
                case 3:
                    return ring(size);
                case 4:
                    return wheel(size);
                case 5:
                    return prism(size);
                default:
                    return chance.nextBoolean() ? allJoined(4 + chance.nextInt(3)) : twoSides(3, 3 + chance.nextInt(3));
            }
        }

        private static Node bond(int size) {
            Node node = new Node(SkeletonTree.BOND);
            for (int i = 0; i < size; i++) {
                node.links.add(new Link(node, 0, 1));
            }
            return node;
        }

        private static Node ring(int size) {
            Node node = new Node(SkeletonTree.RING);
            addRing(node, 0, size);
            return node;
        }

        private static Node wheel(int size) {
            Node node = new Node(SkeletonTree.RIGID);
            addRing(node, 0, size);
            for (int p = 0; p < size; p++) {
                node.links.add(new Link(node, p, size));
            }
            return node;
        }

        private static Node prism(int size) {
            Node node = new Node(SkeletonTree.RIGID);
            addRing(node, 0, size);
            addRing(node, size, size);
            for (int p = 0; p < size; p++) {
                node.links.add(new Link(node, p, size + p));
            }
            return node;
        }

        private static Node allJoined(int size) {
            Node node = new Node(SkeletonTree.RIGID);
            for (int a = 0; a < size; a++) {
                for (int b = 0; b < a; b++) {
                    node.links.add(new Link(node, a, b));
                }
            }
            return node;
        }

        private static Node twoSides(int left, int right) {
            Node node = new Node(SkeletonTree.RIGID);
            for (int a = 0; a < left; a++) {
                for (int b = 0; b < right; b++) {
                    node.links.add(new Link(node, a, left + b));
                }
            }
            return node;
        }

        private static void addRing(Node node, int from, int size) {
            for (int i = 0; i < size; i++) {
                node.links.add(new Link(node, from + i, from + (i + 1) % size));
            }
        }
    }

    /** A graph glued together by chance, with the tree that is due for it. */
    private static final class Glued {
        final List<Link> edges = new ArrayList<>();
        final List<Node> row = new ArrayList<>();
        int points;
        private final List<Node> all = new ArrayList<>();
        private final long[] near = new long[POINTS];
        private final long[] apart = new long[POINTS];

        Glued(Random chance) {
            Node first = Shapes.any(chance);
            all.add(first);
            edges.addAll(first.links);
            points = first.points().size();
            int tries = chance.nextInt(4) == 0 ? chance.nextInt(10) : 300;
            for (int i = 0; i < tries; i++) {
                glue(edges.get(chance.nextInt(edges.size())), Shapes.any(chance), chance);
            }
            rename(chance);
            Collections.shuffle(edges, chance);
            for (int e = 0; e < edges.size(); e++) {
                edges.get(e).number = e;
            }
            number(edges.get(0).owner);
            findNear();
            findApart();
        }

        /** Puts a new piece, less one of its edges, in the place of an edge, if there is room. */
        private void glue(Link place, Node fresh, Random chance) {
            boolean wouldUnite = fresh.kind == place.owner.kind && fresh.kind != SkeletonTree.RIGID;
            int more = fresh.points().size() - 2;
            if (wouldUnite || points + more > POINTS || edges.size() + fresh.links.size() - 2 > MOST_EDGES) {
                return;
            }
            Link side = fresh.links.get(chance.nextInt(fresh.links.size()));
            int[] name = names(side, place, more + 2);
            for (Link link : fresh.links) {
                link.a = name[link.a];
                link.b = name[link.b];
            }
            place.twin = side;
            side.twin = place;
            edges.remove(place);
            edges.addAll(fresh.links);
            edges.remove(side);
            all.add(fresh);
            points += more;
        }

        /** The side's ends become those of the place, the other points become new ones. */
        private int[] names(Link side, Link place, int count) {
            int[] name = new int[count];
            int next = points;
            for (int p = 0; p < count; p++) {
                name[p] = p == side.a ? place.a : p == side.b ? place.b : next++;
            }
            return name;
        }

        private void rename(Random chance) {
            List<Integer> name = new ArrayList<>();
            for (int p = 0; p < POINTS; p++) {
                name.add(p);
            }
            Collections.shuffle(name, chance);
            for (Node node : all) {
                for (Link link : node.links) {
                    int a = name.get(link.a);
                    int b = name.get(link.b);
                    boolean turn = chance.nextBoolean();
                    link.a = turn ? b : a;
                    link.b = turn ? a : b;
                }
            }
        }

        private void number(Node node) {
            node.number = row.size();
            row.add(node);
            List<Link> joints = new ArrayList<>();
            for (Link link : node.links) {
                if (link.twin != null && link != node.up) {
                    joints.add(link);
                }
            }
            joints.sort((x, y) -> x.twin.owner.leastEdge(x.twin) - y.twin.owner.leastEdge(y.twin));
            for (Link link : joints) {
                link.twin.owner.up = link.twin;
                number(link.twin.owner);
            }
        }

        private void findNear() {
            for (Link edge : edges) {
                near[edge.a] |= 1L << edge.b;
                near[edge.b] |= 1L << edge.a;
            }
        }

        private void findApart() {
            for (int a = 0; a < POINTS; a++) {
                for (int b = 0; b <= a; b++) {
                    long rest = present() & ~(1L << a) & ~(1L << b);
                    for (int u = 0; u < POINTS; u++) {
                        if ((rest & 1L << u) != 0) {
                            apart[u] |= rest & ~reach(u, rest);
                        }
                    }
                }
            }
        }

        private long present() {
            long present = 0;
            for (long some : near) {
                present |= some;
            }
            return present;
        }

        private long reach(int from, long inside) {
            long seen = 1L << from;
            long waiting = seen;
            while (waiting != 0) {
                long fresh = near[Long.numberOfTrailingZeros(waiting)] & inside & ~seen;
                seen |= fresh;
                waiting = waiting & (waiting - 1) | fresh;
            }
            return seen;
        }

        boolean comeApart(int u, int v) {
            return u != v && (apart[u] & 1L << v) != 0 && (near[u] & 1L << v) == 0;
        }

        /** Told by the tree: the ends of a joint, two of a ring not side by side, a bond of four. */
        boolean isPair(int u, int v) {
            if (u == v) {
                return false;
            }
            for (Node node : row) {
                int between = 0;
                for (Link link : node.links) {
                    between += link.joins(u, v) ? 1 : 0;
                    if (link.twin != null && link.joins(u, v)) {
                        return true;
                    }
                }
                boolean both = node.points().contains(u) && node.points().contains(v);
                if (node.kind == SkeletonTree.RING && both && between == 0 || between >= 4) {
                    return true;
                }
            }
            return false;
        }
    }
}
