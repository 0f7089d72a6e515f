import java.util.ArrayList;
import java.util.List;
import java.util.Random;

/**
 * Small grammars and texts by chance (always the same ones): all trees for a text are made, one after the
 * other, and the one that is taken has to be the first of them by cost, nodes, and node by node from the root
 * on. Argument: how many grammars.
 */
public final class AllTreesTest {
    private static final int MOST_TREES = 30_000;

    /** A tree for a stretch: the keys of its nodes, each ahead of those of its children. */
    private record Made(int cost, List<int[]> keys) implements Comparable<Made> {
        @Override
        public int compareTo(Made other) {
            if (cost != other.cost) {
                return Integer.compare(cost, other.cost);
            }
            if (keys.size() != other.keys.size()) {
                return Integer.compare(keys.size(), other.keys.size());
            }
            for (int n = 0; n < keys.size(); n++) {
                for (int i = 0; i < 3; i++) {
                    int order = Integer.compare(keys.get(n)[i], other.keys.get(n)[i]);
                    if (order != 0) {
                        return order;
                    }
                }
            }
            return 0;
        }
    }

    private final Random chance;
    private final List<int[]> grammar = new ArrayList<>();
    private final StringBuilder text = new StringBuilder();
    private int made = 0;

    private AllTreesTest(long seed) {
        chance = new Random(seed * 104729 + 5);
        int nonterminals = 1 + chance.nextInt(3);
        int productions = 1 + chance.nextInt(6);
        for (int i = 0; i < productions; i++) {
            int[] p = new int[1 + chance.nextInt(4)];
            p[0] = i == 0 ? 0 : chance.nextInt(nonterminals);
            for (int s = 1; s < p.length; s++) {
                p[s] = chance.nextInt(2) == 0 ? chance.nextInt(nonterminals) : 4 + chance.nextInt(3);
            }
            grammar.add(p);
        }
        int letters = chance.nextInt(5);
        for (int i = 0; i < letters; i++) {
            text.append((char) ('a' + chance.nextInt(3)));
        }
    }

    /**
     * All trees of a nonterminal for a stretch. One in which a nonterminal stands above itself for the same
     * stretch has more nodes than that without what is between, so the open ones are left out.
     */
    private List<Made> trees(int head, int from, int to, int open) {
        List<Made> all = new ArrayList<>();
        if ((open >> head & 1) != 0) {
            return all;
        }
        for (int p = 0; p < grammar.size() && made < MOST_TREES; p++) {
            int[] symbols = grammar.get(p);
            if (symbols[0] != head) {
                continue;
            }
            if (symbols.length == 1) {
                all.add(new Made(to - from, List.of(new int[] {p, 0, 0})));
                made++;
                continue;
            }
            for (int first = from; first <= to; first++) {
                for (int second = first; second <= to; second++) {
                    boolean fits = symbols.length > 3 || symbols.length == 3 && second == to
                            || symbols.length == 2 && first == to && second == to;
                    if (fits) {
                        int[] ends = {from, first, symbols.length > 2 ? second : to, to};
                        all.addAll(of(p, ends, from, to, open | 1 << head));
                    }
                }
            }
        }
        return all;
    }

    private List<Made> of(int p, int[] ends, int from, int to, int open) {
        int[] symbols = grammar.get(p);
        int[] key = {p, ends[1] - ends[0], symbols.length > 2 ? ends[2] - ends[1] : 0};
        List<Made> all = new ArrayList<>();
        all.add(new Made(0, List.of(key)));
        for (int s = 1; s < symbols.length && made < MOST_TREES; s++) {
            boolean same = ends[s - 1] == from && ends[s] == to;
            List<Made> next = new ArrayList<>();
            for (Made part : symbols[s] < 4 ? trees(symbols[s], ends[s - 1], ends[s], same ? open : 0)
                    : List.of(new Made(letterCost(symbols[s], ends[s - 1], ends[s]), List.of()))) {
                for (int i = 0; i < all.size() && made < MOST_TREES; i++) {
                    Made ahead = all.get(i);
                    List<int[]> keys = new ArrayList<>(ahead.keys);
                    keys.addAll(part.keys);
                    next.add(new Made(ahead.cost + part.cost, keys));
                    made++;
                }
            }
            all = next;
        }
        return all;
    }

    private int letterCost(int symbol, int from, int to) {
        boolean isAmong = text.substring(from, to).indexOf('a' + symbol - 4) >= 0;
        return isAmong ? to - from - 1 : to - from + 1;
    }

    private static int children(int[] production) {
        int many = 0;
        for (int s = 1; s < production.length; s++) {
            many += production[s] < 4 ? 1 : 0;
        }
        return many;
    }

    /** Answers whether the trees were few enough to be made. */
    private boolean go(String what) {
        Made best = null;
        for (Made tree : trees(0, 0, text.length(), 0)) {
            best = best == null || tree.compareTo(best) < 0 ? tree : best;
        }
        if (made >= MOST_TREES) {
            return false;
        }
        Told t = Told.grammar(grammar.toArray(new int[0][]));
        int answer = t.text(text.toString());
        boolean isThere = best != null && best.keys.size() <= 30;
        Due.is(what + ", nodes", answer / 100, isThere ? best.keys.size() : 0);
        Due.is(what + ", cost", t.x.cost(), isThere ? best.cost : -1);
        for (int n = 0; isThere && n < best.keys.size() && n < answer / 100; n++) {
            int p = best.keys.get(n)[0];
            Due.is(what + ", node " + n, t.x.node(n) % 1000, 10 * p + children(grammar.get(p)));
        }
        stretches(what, t, best, answer / 100);
        return true;
    }

    /** The stretches are seen by the letters that are put in. */
    private void stretches(String what, Told t, Made best, int nodes) {
        if (best == null || best.keys.size() != nodes) {
            return;
        }
        for (int letter = 0; letter < 3; letter++) {
            t.x.attribute(Told.UP);
            for (int p = 0; p < grammar.size(); p++) {
                t.put(letter).up(p, letter);
            }
        }
        int[] at = {0, 0};
        putsBelow(what, t, best, at, 0, text.length());
        Due.is(what + ", nodes gone through", at[0], nodes);
    }

    private void putsBelow(String what, Told t, Made best, int[] at, int from, int to) {
        int node = at[0];
        at[0]++;
        int[] key = best.keys.get(node);
        int[] symbols = grammar.get(key[0]);
        int[] ends = {from, symbols.length == 2 ? to : from + key[1], symbols.length == 3 ? to : from + key[1] + key[2], to};
        int letter = 0;
        for (int s = 1; s < symbols.length; s++) {
            if (symbols[s] < 4) {
                putsBelow(what, t, best, at, ends[s - 1], ends[s]);
                continue;
            }
            boolean isPut = letterCost(symbols[s], ends[s - 1], ends[s]) > ends[s] - ends[s - 1];
            Due.is(what + ", node " + node + ", put " + letter, t.ask(node, letter), isPut ? 1 : 0);
            letter++;
        }
        for (; letter < 3; letter++) {
            Due.is(what + ", node " + node + ", no letter " + letter, t.ask(node, letter), AttribArbor.NONE);
        }
    }

    public static void main(String[] args) {
        int grammars = args.length > 0 ? Integer.parseInt(args[0]) : 1500;
        int tried = 0;
        for (int seed = 0; seed < grammars; seed++) {
            AllTreesTest test = new AllTreesTest(seed);
            StringBuilder what = new StringBuilder("grammar " + seed + " for '" + test.text + "'");
            tried += test.go(what.toString()) ? 1 : 0;
        }
        Due.is("most of the grammars have few enough trees", tried > grammars / 2, true);
        System.out.println("AllTreesTest: " + tried + " grammars");
        Due.end("AllTreesTest");
    }
}
