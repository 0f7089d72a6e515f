import java.util.ArrayDeque;
import java.util.ArrayList;
import java.util.Collections;
import java.util.HashMap;
import java.util.HashSet;
import java.util.IdentityHashMap;
import java.util.LinkedHashSet;
import java.util.List;
import java.util.Map;
import java.util.Set;
import java.util.TreeSet;

/**
 * The document told a second time, as plainly as can be and with nothing of AttribArbor's ways in it:
 * nodes are objects, references are those objects, findings are kept at them, expressions are trees
 * that are looked at by recursion, and the best tree of a stretch is a tree. It is slow, and that is fine.
 */
final class Model {
    static final int UP = 0, DOWN = 1, GATHERED = 2, RING = 3;

    enum Odd { NONE, CYCLE, CONFLICT }

    record Production(int head, List<Integer> symbols) {
        List<Integer> children() {
            return symbols.stream().filter(s -> s < 4).toList();
        }

        List<Integer> letters() {
            return symbols.stream().filter(s -> s >= 4).toList();
        }
    }

    record Forward(int other, int[] stands) { }

    record Rule(int attribute, int other) { }

    record Expression(int kind, int a, int b, List<Expression> of) { }

    record Equation(int production, int attribute, int target, int aspect, List<Expression> expressions) { }

    /** A tree for a stretch, as it is read. */
    record Derived(int production, int from, int to, int cost, int nodes, List<Derived> children,
            List<Integer> ends, List<Boolean> puts) { }

    static final class Node {
        final int readAs;
        int now;
        final List<Boolean> puts;
        Node parent;
        final List<Node> children = new ArrayList<>();
        final Map<Integer, Finding> kept = new HashMap<>();

        Node(int production, List<Boolean> puts) {
            this.readAs = production;
            this.now = production;
            this.puts = puts;
        }
    }

    /** What was found, and on what it hangs. */
    static final class Finding {
        Object value;
        boolean onAll;
        final Set<Node> on = Collections.newSetFromMap(new IdentityHashMap<>());

        void hangsAsWell(Finding other) {
            onAll |= other.onAll;
            on.addAll(other.on);
        }
    }

    record Slot(Node node, int attribute) {
        @Override
        public boolean equals(Object other) {
            return other instanceof Slot s && s.node == node && s.attribute == attribute;
        }

        @Override
        public int hashCode() {
            return System.identityHashCode(node) * 7 + attribute;
        }
    }

    /** One going about: where it looks up and keeps what it finds, and what the RING ones are for it. */
    final class Asking {
        final boolean keeping;
        final Map<Slot, Object> rings;
        final Map<Slot, Finding> own = new HashMap<>();
        final Set<Slot> open = new HashSet<>();
        // The reads of the outermost one.
        final Set<Slot> reads = new LinkedHashSet<>();

        Asking(boolean keeping, Map<Slot, Object> rings) {
            this.keeping = keeping;
            this.rings = rings;
        }
    }

    final List<Production> productions = new ArrayList<>();
    final Map<Integer, Forward> forwards = new HashMap<>();
    final Map<Integer, Rule> rules = new HashMap<>();
    final List<Integer> kinds = new ArrayList<>();
    final List<int[]> draft = new ArrayList<>();
    final List<Equation> equations = new ArrayList<>();
    final boolean[] on = {true, true, true, true};
    final List<Integer> text = new ArrayList<>();
    List<Node> nodes = new ArrayList<>();
    int cost = -1;
    int found = 0;

    // ---- arguments

    private static void io(boolean wrong) {
        if (wrong) {
            throw new IndexOutOfBoundsException();
        }
    }

    private static void ia(boolean wrong) {
        if (wrong) {
            throw new IllegalArgumentException();
        }
    }

    private static void is(boolean wrong) {
        if (wrong) {
            throw new IllegalStateException();
        }
    }

    private boolean noProduction(int p) {
        return p < 0 || p >= productions.size();
    }

    private boolean noAttribute(int a) {
        return a < 0 || a >= kinds.size();
    }

    private boolean noNode(int n) {
        return n < 0 || n >= nodes.size();
    }

    private void told() {
        for (Node n : nodes) {
            n.kept.clear();
        }
    }

    // ---- the grammar

    int production(int nonterminal, int first, int second, int third) {
        io(nonterminal < 0 || nonterminal > 3);
        ia(first < -1 || first > 9 || second < -1 || second > 9 || third < -1 || third > 9);
        ia(first == -1 && second != -1 || second == -1 && third != -1);
        is(productions.size() == 10);
        List<Integer> symbols = new ArrayList<>();
        for (int s : new int[] {first, second, third}) {
            if (s != -1) {
                symbols.add(s);
            }
        }
        productions.add(new Production(nonterminal, symbols));
        told();
        return productions.size() - 1;
    }

    int forward(int production, int other, int first, int second, int third) {
        int[] stands = {first, second, third};
        io(noProduction(production));
        io(other != -1 && noProduction(other));
        Production p = productions.get(production);
        int needed = other == -1 ? 0 : productions.get(other).children().size();
        for (int i = 0; i < needed; i++) {
            io(stands[i] < 0 || stands[i] >= p.children().size());
        }
        ia(other == production);
        ia(other != -1 && productions.get(other).head() != p.head());
        for (int i = 0; i < 3; i++) {
            if (i < needed) {
                ia(!productions.get(other).children().get(i).equals(p.children().get(stands[i])));
            } else {
                ia(stands[i] != 0);
            }
        }
        Forward before = forwards.remove(production);
        if (other != -1) {
            forwards.put(production, new Forward(other, stands));
        }
        told();
        return before == null ? -1 : before.other();
    }

    int rule(int production, int attribute, int other) {
        io(noProduction(production) || noAttribute(attribute) || noProduction(other));
        ia(production == other);
        Production p = productions.get(production);
        Production o = productions.get(other);
        ia(p.head() != o.head() || p.letters().size() != o.letters().size() || !p.children().equals(o.children()));
        Rule before = rules.put(production, new Rule(attribute, other));
        told();
        return before == null ? -1 : before.other();
    }

    int attribute(int kind) {
        ia(kind < 0 || kind > 3);
        is(kinds.size() == 6);
        kinds.add(kind);
        told();
        return kinds.size() - 1;
    }

    private static int takes(int kind) {
        return switch (kind) {
            case 7 -> 1;
            case 8, 9, 10, 11, 12 -> 2;
            case 13 -> 3;
            default -> 0;
        };
    }

    private int standing() {
        int height = 0;
        for (int[] s : draft) {
            height += 1 - takes(s[0]);
        }
        return height;
    }

    int step(int kind, int a, int b) {
        boolean tellsAttribute = kind == 1 || kind == 2 || kind == 7;
        io(tellsAttribute && noAttribute(a));
        ia(kind < 0 || kind > 14);
        int mostA = kind == 0 ? 999 : kind == 3 || kind == 4 ? 2 : 0;
        ia(!tellsAttribute && (a < 0 || a > mostA));
        ia(b < 0 || b > (kind == 2 || kind == 6 ? 2 : 0));
        is(standing() < takes(kind));
        is(draft.size() == 8);
        draft.add(new int[] {kind, a, b});
        return standing();
    }

    int dropSteps() {
        int size = draft.size();
        draft.clear();
        return size;
    }

    int equation(int production, int attribute, int target, int aspect) {
        io(noProduction(production) || noAttribute(attribute) || aspect < 0 || aspect > 3);
        io(target >= productions.get(production).children().size());
        int kind = kinds.get(attribute);
        ia(target < -2);
        ia(kind == DOWN ? target < 0 : kind == GATHERED ? target != -2 : target != -1);
        is(standing() != (kind == GATHERED ? 2 : 1));
        is(equations.size() == 30);
        ArrayDeque<Expression> stack = new ArrayDeque<>();
        for (int[] s : draft) {
            List<Expression> of = new ArrayList<>();
            for (int i = 0; i < takes(s[0]); i++) {
                of.add(0, stack.pop());
            }
            stack.push(new Expression(s[0], s[1], s[2], of));
        }
        List<Expression> expressions = new ArrayList<>(stack);
        Collections.reverse(expressions);
        equations.add(new Equation(production, attribute, target, aspect, expressions));
        draft.clear();
        told();
        return equations.size() - 1;
    }

    boolean toggle(int aspect) {
        io(aspect < 0 || aspect > 3);
        on[aspect] = !on[aspect];
        told();
        return on[aspect];
    }

    private List<Equation> counting(int production, int attribute, int target) {
        List<Equation> all = new ArrayList<>();
        for (Equation e : equations) {
            if (on[e.aspect()] && e.production() == production && e.attribute() == attribute && e.target() == target) {
                all.add(e);
            }
        }
        return all;
    }

    int conflicts() {
        int many = 0;
        for (Equation e : equations) {
            boolean contribution = e.target() == -2;
            if (on[e.aspect()] && !contribution
                    && counting(e.production(), e.attribute(), e.target()).size() > 1) {
                many++;
            }
        }
        return many;
    }

    /** What counts for a target, behind forwards if need be, with the children that stand there. */
    record Counting(List<Equation> equations, List<Integer> stands, boolean behind) { }

    private Counting behind(int production, int attribute, int target, List<Integer> stands, int hops) {
        int there = target < 0 ? target : stands.indexOf(target);
        if (target < 0 || there >= 0) {
            List<Equation> all = counting(production, attribute, there);
            if (!all.isEmpty()) {
                return new Counting(all, stands, hops > 0);
            }
        }
        Forward forward = forwards.get(production);
        if (forward == null || hops == 3) {
            return null;
        }
        List<Integer> standThere = new ArrayList<>();
        for (int i = 0; i < productions.get(forward.other()).children().size(); i++) {
            standThere.add(stands.get(forward.stands()[i]));
        }
        return behind(forward.other(), attribute, target, standThere, hops + 1);
    }

    private List<Integer> ownChildren(int production) {
        List<Integer> stands = new ArrayList<>();
        for (int i = 0; i < productions.get(production).children().size(); i++) {
            stands.add(i);
        }
        return stands;
    }

    private Counting resolved(int production, int attribute, int target) {
        return behind(production, attribute, target, ownChildren(production), 0);
    }

    // ---- rings in the grammar: corners are "-1:a" for the node, "c:a" for its child c

    private static void tellReads(Expression e, List<Integer> stands, Set<String> into) {
        for (Expression x : e.of()) {
            tellReads(x, stands, into);
        }
        if (e.kind() == 1) {
            into.add("-1:" + e.a());
        }
        if (e.kind() == 2 && e.b() < stands.size()) {
            into.add(stands.get(e.b()) + ":" + e.a());
        }
    }

    private Map<String, Set<String>> graph(int production, Set<String> relations) {
        Map<String, Set<String>> graph = new HashMap<>();
        List<Integer> children = productions.get(production).children();
        for (int target = -1; target < children.size(); target++) {
            for (int a = 0; a < kinds.size(); a++) {
                if (kinds.get(a) != (target == -1 ? UP : DOWN)) {
                    continue;
                }
                Set<String> reads = new TreeSet<>();
                Counting c = resolved(production, a, target);
                if (c != null) {
                    for (Equation e : c.equations()) {
                        e.expressions().forEach(x -> tellReads(x, c.stands(), reads));
                    }
                } else if (target >= 0) {
                    reads.add("-1:" + a);
                }
                reads.removeIf(r -> kinds.get(Integer.parseInt(r.split(":")[1])) > DOWN);
                graph.put(target + ":" + a, reads);
            }
        }
        for (int c = 0; c < children.size(); c++) {
            for (int up = 0; up < kinds.size(); up++) {
                for (int down = 0; down < kinds.size(); down++) {
                    if (relations.contains(children.get(c) + ":" + up + ":" + down)) {
                        graph.computeIfAbsent(c + ":" + up, k -> new TreeSet<>()).add(c + ":" + down);
                    }
                }
            }
        }
        return graph;
    }

    private static boolean reaches(Map<String, Set<String>> graph, String from, String to, Set<String> seen) {
        for (String next : graph.getOrDefault(from, Set.of())) {
            if (next.equals(to) || seen.add(next) && reaches(graph, next, to, seen)) {
                return true;
            }
        }
        return false;
    }

    int ringIn() {
        Set<String> relations = new HashSet<>();
        for (int before = -1; before != relations.size();) {
            before = relations.size();
            for (int p = 0; p < productions.size(); p++) {
                Map<String, Set<String>> graph = graph(p, relations);
                for (int up = 0; up < kinds.size(); up++) {
                    for (int down = 0; down < kinds.size(); down++) {
                        if (kinds.get(up) == UP && kinds.get(down) == DOWN
                                && reaches(graph, "-1:" + up, "-1:" + down, new HashSet<>())) {
                            relations.add(productions.get(p).head() + ":" + up + ":" + down);
                        }
                    }
                }
            }
        }
        for (int p = 0; p < productions.size(); p++) {
            Map<String, Set<String>> graph = graph(p, relations);
            for (String corner : graph.keySet()) {
                if (reaches(graph, corner, corner, new HashSet<>())) {
                    return p;
                }
            }
        }
        return -1;
    }

    // ---- the text and the tree

    int insert(int place, int letter) {
        io(place < 0 || place > text.size());
        ia(letter < 'a' || letter > 'f');
        is(text.size() == 12 || productions.isEmpty());
        text.add(place, letter - 'a' + 4);
        return readAgain();
    }

    int delete(int place) {
        io(place < 0 || place >= text.size());
        is(productions.isEmpty());
        text.remove(place);
        return readAgain();
    }

    int read() {
        is(productions.isEmpty());
        return readAgain();
    }

    /** Which of two trees for the same stretch and nonterminal is taken. */
    private static int compare(Derived x, Derived y) {
        if (x.cost() != y.cost()) {
            return Integer.compare(x.cost(), y.cost());
        }
        if (x.nodes() != y.nodes()) {
            return Integer.compare(x.nodes(), y.nodes());
        }
        if (x.production() != y.production()) {
            return Integer.compare(x.production(), y.production());
        }
        for (int i = 0; i < x.ends().size(); i++) {
            int c = Integer.compare(x.ends().get(i), y.ends().get(i));
            if (c != 0) {
                return c;
            }
        }
        for (int i = 0; i < x.children().size(); i++) {
            int c = compare(x.children().get(i), y.children().get(i));
            if (c != 0) {
                return c;
            }
        }
        return 0;
    }

    private void derive(Map<String, Derived> best, int p, int from, int to, int symbol, List<Integer> ends, int[] changes) {
        Production production = productions.get(p);
        int at = symbol == 0 ? from : ends.get(symbol - 1);
        if (symbol < production.symbols().size()) {
            boolean last = symbol == production.symbols().size() - 1;
            for (int end = last ? to : at; end <= to; end++) {
                ends.add(end);
                derive(best, p, from, to, symbol + 1, ends, changes);
                ends.remove(ends.size() - 1);
            }
            return;
        }
        int cost = production.symbols().isEmpty() ? to - from : 0;
        int size = 1;
        List<Derived> children = new ArrayList<>();
        List<Boolean> puts = new ArrayList<>();
        int start = from;
        for (int i = 0; i < ends.size(); i++) {
            int end = ends.get(i);
            int s = production.symbols().get(i);
            if (s < 4) {
                Derived child = best.get(s + ":" + start + ":" + end);
                if (child == null) {
                    return;
                }
                children.add(child);
                cost += child.cost();
                size += child.nodes();
            } else {
                boolean among = text.subList(start, end).contains(s);
                puts.add(!among);
                cost += among ? end - start - 1 : end - start + 1;
            }
            start = end;
        }
        Derived tree = new Derived(p, from, to, cost, size, children, List.copyOf(ends), puts);
        String key = production.head() + ":" + from + ":" + to;
        Derived old = best.get(key);
        if (old == null || compare(tree, old) < 0) {
            best.put(key, tree);
            changes[0]++;
        }
    }

    private Derived bestTree() {
        Map<String, Derived> best = new HashMap<>();
        for (int size = 0; size <= text.size(); size++) {
            for (int from = 0; from + size <= text.size(); from++) {
                int[] changes = {1};
                while (changes[0] > 0) {
                    changes[0] = 0;
                    for (int p = 0; p < productions.size(); p++) {
                        derive(best, p, from, from + size, 0, new ArrayList<>(), changes);
                    }
                }
            }
        }
        return best.get("0:0:" + text.size());
    }

    private Node grow(Derived d, Node parent) {
        Node n = new Node(d.production(), d.puts());
        n.parent = parent;
        for (int i = 0; i < d.children().size(); i++) {
            n.children.add(grow(d.children().get(i), n));
        }
        return n;
    }

    private Node merge(Node old, Node next, Set<Node> touched) {
        if (old.readAs != next.readAs || !old.puts.equals(next.puts)) {
            return next;
        }
        for (int i = 0; i < old.children.size(); i++) {
            Node child = merge(old.children.get(i), next.children.get(i), touched);
            if (child != old.children.get(i)) {
                touched.add(old);
            }
            old.children.set(i, child);
            child.parent = old;
        }
        return old;
    }

    private void enumerate(Node n, List<Node> into) {
        into.add(n);
        n.children.forEach(c -> enumerate(c, into));
    }

    private static Set<Node> identities(List<Node> list) {
        Set<Node> set = Collections.newSetFromMap(new IdentityHashMap<>());
        set.addAll(list);
        return set;
    }

    private int readAgain() {
        Derived best = bestTree();
        Set<Node> before = identities(nodes);
        Set<Node> touched = Collections.newSetFromMap(new IdentityHashMap<>());
        List<Node> next = new ArrayList<>();
        cost = -1;
        if (best != null && best.nodes() <= 30) {
            cost = best.cost();
            Node root = grow(best, null);
            enumerate(nodes.isEmpty() ? root : merge(nodes.get(0), root, touched), next);
        }
        nodes = next;
        Set<Node> after = identities(nodes);
        boolean anyNew = false;
        int same = 0;
        for (Node n : nodes) {
            anyNew |= !before.contains(n);
            same += before.contains(n) ? 1 : 0;
        }
        for (Node n : before) {
            if (!after.contains(n)) {
                touched.add(n);
            }
        }
        drop(touched, anyNew);
        return nodes.isEmpty() ? 0 : 100 * nodes.size() + same;
    }

    private void drop(Set<Node> touched, boolean anyNew) {
        for (Node n : nodes) {
            n.kept.values().removeIf(f -> f.onAll && (anyNew || !touched.isEmpty())
                    || f.on.stream().anyMatch(touched::contains));
        }
    }

    int cost() {
        return cost;
    }

    int node(int node) {
        io(noNode(node));
        Node n = nodes.get(node);
        return 1000 * (n.parent == null ? 0 : indexOf(n.parent) + 1) + 10 * n.readAs + n.children.size();
    }

    private int indexOf(Node n) {
        for (int i = 0; i < nodes.size(); i++) {
            if (nodes.get(i) == n) {
                return i;
            }
        }
        throw new AssertionError("a node that is none");
    }

    int rewrite(int node) {
        io(noNode(node));
        Node n = nodes.get(node);
        Rule rule = rules.get(n.now);
        if (rule != null) {
            Object is = ask(n, rule.attribute(), new Asking(true, rings()));
            if (is instanceof Integer number && number > 0) {
                n.now = rule.other();
                Set<Node> touched = Collections.newSetFromMap(new IdentityHashMap<>());
                touched.add(n);
                drop(touched, false);
            }
        }
        return n.now;
    }

    // ---- asking

    private int told(Object value) {
        if (value instanceof Node n) {
            return 1000 + indexOf(n);
        }
        if (value instanceof Integer i) {
            return i;
        }
        return value == Odd.NONE ? -1 : value == Odd.CYCLE ? -2 : -3;
    }

    int value(int node, int attribute) {
        io(noNode(node) || noAttribute(attribute));
        return told(ask(nodes.get(node), attribute, new Asking(true, rings())));
    }

    int valueAnew(int node, int attribute) {
        io(noNode(node) || noAttribute(attribute));
        return told(ask(nodes.get(node), attribute, new Asking(false, rings())));
    }

    int found() {
        return found;
    }

    boolean isKept(int node, int attribute) {
        io(noNode(node) || noAttribute(attribute));
        return nodes.get(node).kept.containsKey(attribute);
    }

    int why(int node, int attribute, int read) {
        io(noNode(node) || noAttribute(attribute));
        Asking asking = new Asking(false, rings());
        Slot slot = new Slot(nodes.get(node), attribute);
        asking.open.add(slot);
        findAnew(slot, asking, asking.reads);
        List<Slot> reads = new ArrayList<>(asking.reads);
        io(read < 0 || read >= reads.size());
        return 10 * indexOf(reads.get(read).node()) + reads.get(read).attribute();
    }

    private Map<Slot, Object> rings() {
        Map<Slot, Object> now = new HashMap<>();
        for (Node n : nodes) {
            for (int a = 0; a < kinds.size(); a++) {
                if (kinds.get(a) == RING) {
                    now.put(new Slot(n, a), 0);
                }
            }
        }
        for (int round = 1; round <= 30; round++) {
            Asking asking = new Asking(false, now);
            Map<Slot, Object> next = new HashMap<>();
            for (Slot slot : now.keySet()) {
                Object value = findAnew(slot, asking, new HashSet<>()).value;
                next.put(slot, value instanceof Node ? Odd.NONE : value);
            }
            if (next.equals(now)) {
                return now;
            }
            now = next;
        }
        now.replaceAll((slot, value) -> Odd.CYCLE);
        return now;
    }

    private Object ask(Node node, int attribute, Asking asking) {
        return find(new Slot(node, attribute), asking).value;
    }

    private Finding find(Slot slot, Asking asking) {
        if (kinds.get(slot.attribute()) == RING) {
            Finding ring = new Finding();
            ring.value = asking.rings.get(slot);
            ring.onAll = true;
            return ring;
        }
        Finding kept = asking.keeping ? slot.node().kept.get(slot.attribute()) : asking.own.get(slot);
        if (kept != null) {
            return kept;
        }
        if (!asking.open.add(slot)) {
            Finding cycle = new Finding();
            cycle.value = Odd.CYCLE;
            cycle.onAll = true;
            return cycle;
        }
        Finding finding = findAnew(slot, asking, new HashSet<>());
        asking.open.remove(slot);
        if (asking.keeping) {
            slot.node().kept.put(slot.attribute(), finding);
            found++;
        } else {
            asking.own.put(slot, finding);
        }
        return finding;
    }

    /** Where expressions are looked at, and what is told of all that they look at. */
    private record Place(Node node, List<Integer> stands, boolean behind, Asking asking, Finding finding, Set<Slot> reads) { }

    private Finding findAnew(Slot slot, Asking asking, Set<Slot> reads) {
        Node n = slot.node();
        Finding finding = new Finding();
        finding.on.add(n);
        int kind = kinds.get(slot.attribute());
        if (kind == GATHERED) {
            finding.onAll = true;
            finding.value = gather(slot, asking, finding, reads);
        } else if (kind == DOWN && n.parent == null) {
            finding.value = Odd.NONE;
        } else {
            Node at = kind == DOWN ? n.parent : n;
            finding.on.add(at);
            Counting c = resolved(at.now, slot.attribute(), kind == DOWN ? n.parent.children.indexOf(n) : -1);
            if (c == null) {
                Place place = new Place(at, List.of(), false, asking, finding, reads);
                finding.value = kind == DOWN ? look(at, slot.attribute(), place) : Odd.NONE;
            } else if (c.equations().size() > 1) {
                finding.value = Odd.CONFLICT;
            } else {
                Place place = new Place(at, c.stands(), c.behind(), asking, finding, reads);
                finding.value = tell(c.equations().get(0).expressions().get(0), place);
            }
        }
        finding.onAll |= finding.value == Odd.CYCLE;
        return finding;
    }

    private Object gather(Slot slot, Asking asking, Finding finding, Set<Slot> reads) {
        int sum = 0;
        for (Node giver : nodes) {
            for (Equation e : counting(giver.now, slot.attribute(), -2)) {
                Place place = new Place(giver, ownChildren(giver.now), false, asking, finding, reads);
                Object to = tell(e.expressions().get(0), place);
                if (to == Odd.CYCLE || to == Odd.CONFLICT) {
                    return to;
                }
                if (to != slot.node()) {
                    continue;
                }
                Object gift = tell(e.expressions().get(1), place);
                if (gift == Odd.CYCLE || gift == Odd.CONFLICT) {
                    return gift;
                }
                sum += gift instanceof Integer i ? i : 0;
            }
        }
        return sum % 1000;
    }

    private Object look(Node node, int attribute, Place place) {
        Slot slot = new Slot(node, attribute);
        place.reads().add(slot);
        Finding other = find(slot, place.asking());
        place.finding().hangsAsWell(other);
        return other.value;
    }

    private Object tell(Expression e, Place place) {
        Node n = place.node();
        Node child = (e.kind() == 2 || e.kind() == 6) && e.b() < place.stands().size()
                ? n.children.get(place.stands().get(e.b())) : null;
        List<Integer> letters = place.behind() ? List.of() : productions.get(n.readAs).letters();
        switch (e.kind()) {
            case 0:
                return e.a();
            case 1:
                return look(n, e.a(), place);
            case 2:
                return child == null ? Odd.NONE : look(child, e.a(), place);
            case 3:
                return e.a() < letters.size() ? (Object) (letters.get(e.a()) - 3) : Odd.NONE;
            case 4:
                return e.a() < letters.size() ? (Object) (n.puts.get(e.a()) ? 1 : 0) : Odd.NONE;
            case 5:
                return n;
            case 6:
                return child == null ? Odd.NONE : child;
            case 14:
                return n.now;
            default:
                return join(e, place);
        }
    }

    private Object join(Expression e, Place place) {
        Object first = tell(e.of().get(0), place);
        if (first instanceof Odd) {
            return first;
        }
        if (e.kind() == 7) {
            return first instanceof Node to ? look(to, e.a(), place) : Odd.NONE;
        }
        if (e.kind() == 13) {
            return tell(e.of().get(first.equals(0) ? 2 : 1), place);
        }
        Object second = tell(e.of().get(1), place);
        if (second instanceof Odd) {
            return second;
        }
        if (e.kind() == 12) {
            return first.equals(second) ? 1 : 0;
        }
        if (!(first instanceof Integer x) || !(second instanceof Integer y)) {
            return Odd.NONE;
        }
        return switch (e.kind()) {
            case 8 -> (x + y) % 1000;
            case 9 -> x * y % 1000;
            case 10 -> x > y ? x : y;
            default -> (x | y) % 1000;
        };
    }
}
