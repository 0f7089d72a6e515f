/**
 * Promises 12 to 17 at their boundaries: texts that are empty and full, what letters cost, which tree
 * is taken, how many nodes it has at most, which of them are kept, and when one is rewritten.
 */
public final class EdgeTreeTest {
    private static final int LOW = Integer.MIN_VALUE;
    private static final int HIGH = Integer.MAX_VALUE;

    private static int[] p(int... row) {
        return Told.p(row);
    }

    private static void costIs(int due, String text, int[]... productions) {
        Told t = Told.grammar(productions);
        t.text(text);
        Due.is("cost of '" + text + "'", t.x.cost(), due);
    }

    /** The tree for a text: what node() tells of each, and that there are no more. */
    private static AttribArbor treeIs(String text, int[] due, int[]... productions) {
        Told t = Told.grammar(productions);
        t.text(text);
        nodesAre("tree for '" + text + "'", t.x, due);
        return t.x;
    }

    private static void nodesAre(String what, AttribArbor x, int... due) {
        for (int n = 0; n < due.length; n++) {
            int node = n;
            int[] got = {-1};
            Due.is(what + ": there is a node " + n, isThere(x, node, got), true);
            Due.is(what + ", node " + n, got[0], due[n]);
        }
        Due.noPlace(what + ", node " + due.length, () -> x.node(due.length));
        Due.noPlace(what + ", node -1", () -> x.node(-1));
    }

    private static boolean isThere(AttribArbor x, int node, int[] got) {
        try {
            got[0] = x.node(node);
            return true;
        } catch (IndexOutOfBoundsException e) {
            return false;
        }
    }

    // "place: 0 to the length of the text"; "place: 0 for the first letter"; an empty text and a full one
    private static void places() {
        AttribArbor x = Told.grammar(p(0)).x;
        for (int length = 0; length < 12; length++) {
            int beyond = length + 1;
            for (int bad : new int[] {LOW, -1, beyond, HIGH}) {
                Due.noPlace("insert at " + bad + " of " + length, () -> x.insert(bad, 'a'));
                Due.noPlace("insert at " + bad + " of " + length + " ahead of the letter", () -> x.insert(bad, 'g'));
            }
            for (int bad : new int[] {LOW, -1, length, HIGH}) {
                Due.noPlace("delete at " + bad + " of " + length, () -> x.delete(bad));
            }
            Due.is("insert at the end, " + length, x.insert(length, 'f'), length == 0 ? 100 : 101);
            Due.is("cost of " + length + " and one", x.cost(), length + 1);
        }
        Due.noPlace("insert at 13 of 12", () -> x.insert(13, 'a'));
        Due.noPlace("insert at -1 of 12", () -> x.insert(-1, 'a'));
        Due.noPlace("delete at 12 of 12", () -> x.delete(12));
        Due.badArgument("insert into 12: the letter first", () -> x.insert(0, 'g'));
        for (int place = 0; place < 13; place++) {
            int at = place;
            Due.notNow("insert into 12 at " + place, () -> x.insert(at, 'a'));
        }
        Due.is("12 letters stay", x.read(), 101);
        Due.is("12 letters cost", x.cost(), 12);
        Due.is("delete the last one", x.delete(11), 101);
        Due.is("there is a place again", x.insert(11, 'a'), 101);
        for (int length = 12; length > 0; length--) {
            Due.is("delete the first of " + length, x.delete(0), 101);
            Due.is("cost behind it, " + length, x.cost(), length - 1);
        }
        Due.noPlace("delete of an empty text", () -> x.delete(0));
        Due.is("insert into an empty text", x.insert(0, 'a'), 101);
    }

    // Where a letter is put, and which one is taken out, at both ends and between.
    private static void orderOfLetters() {
        Told t = Told.grammar(p(0, 1, 1, 1), p(1, 2, 2, 2), p(2, 4), p(2, 5), p(2, 6), p(2, 7), p(2, 8), p(2, 9));
        int letter = t.x.attribute(Told.UP);
        int two = t.x.attribute(Told.UP);
        for (int q = 2; q < 8; q++) {
            t.letter(0).up(q, letter);
        }
        t.child(letter, 0).number(10).mul().child(letter, 1).add().up(1, two);
        t.own(two).number(10).mul().child(letter, 2).add().up(1, letter);
        t.x.insert(0, 'b');
        t.x.insert(0, 'a');
        t.x.insert(2, 'd');
        t.x.insert(2, 'c');
        t.x.insert(4, 'f');
        t.x.insert(4, 'e');
        t.x.insert(0, 'f');
        t.x.insert(7, 'a');
        t.x.insert(4, 'b');
        lettersAre("inserted", t.x, 612, 324, 561);
        t.x.delete(8);
        t.x.insert(8, 'c');
        lettersAre("the last one", t.x, 612, 324, 563);
        t.x.delete(0);
        t.x.insert(0, 'd');
        lettersAre("the first one", t.x, 412, 324, 563);
        t.x.delete(4);
        t.x.insert(4, 'e');
        lettersAre("one between", t.x, 412, 354, 563);
        t.x.delete(4);
        t.x.insert(8, 'a');
        lettersAre("those behind it move up", t.x, 412, 345, 631);
    }

    private static void lettersAre(String what, AttribArbor x, int... due) {
        for (int i = 0; i < 3; i++) {
            Due.is("letters " + what + ", " + i, x.value(1 + 4 * i, 0), due[i]);
        }
    }

    // "letter: 97 to 102"
    private static void letters() {
        AttribArbor x = Told.grammar(p(0)).x;
        for (int bad : new int[] {LOW, -1, 0, 4, 9, 65, 96, 103, 122, HIGH}) {
            Due.badArgument("letter " + bad, () -> x.insert(0, bad));
        }
        for (int letter = 97; letter < 103; letter++) {
            Due.is("letter " + letter, x.insert(0, letter), letter == 97 ? 100 : 101);
        }
        // A symbol 4 to 9 is the letter "a" to "f", and no other one.
        for (int symbol = 4; symbol < 10; symbol++) {
            for (int letter = 0; letter < 6; letter++) {
                costIs(symbol - 4 == letter ? 0 : 2, String.valueOf((char) ('a' + letter)), p(0, symbol));
            }
        }
    }

    // "IllegalStateException if the text has 12 letters, or there is no production"
    private static void noProduction() {
        AttribArbor x = new AttribArbor();
        for (int i = 0; i < 2; i++) {
            Due.notNow("insert without a production", () -> x.insert(0, 'a'));
            Due.badArgument("insert without a production, the letter first", () -> x.insert(0, 96));
            Due.noPlace("insert without a production, the place first", () -> x.insert(1, 96));
            Due.noPlace("delete without a production, no letter", () -> x.delete(0));
            Due.notNow("read without a production", x::read);
            Due.is("cost without a production", x.cost(), -1);
            x.attribute(0);
        }
        x.production(3, -1, -1, -1);
        Due.is("read with one that is not for 0", x.read(), 0);
        Due.is("insert with one that is not for 0", x.insert(0, 'a'), 0);
        Due.is("delete with one that is not for 0", x.delete(0), 0);
        Due.is("cost with one that is not for 0", x.cost(), -1);
        x.production(0, -1, -1, -1);
        Due.is("no tree until it is read again", x.cost(), -1);
        Due.noPlace("no node until it is read again", () -> x.node(0));
        Due.is("it is read", x.read(), 100);
        Due.is("the letter that was put in without a tree was taken out", x.cost(), 0);
    }

    // "There is none until a text is read for the first time."; "-1 if there is no tree"
    private static void costAtFirst() {
        AttribArbor x = Told.grammar(p(0), p(1, 4)).x;
        Due.is("cost ahead of the first text", x.cost(), -1);
        x.insert(0, 'a');
        Due.is("cost of the first text", x.cost(), 1);
        x.production(0, 4, -1, -1);
        Due.is("cost is that of the tree still", x.cost(), 1);
        x.read();
        Due.is("cost of the tree that is read then", x.cost(), 0);
        AttribArbor y = Told.grammar(p(0)).x;
        y.read();
        Due.is("cost of nothing", y.cost(), 0);
    }

    // "The cost of a letter that covers a stretch is how many letters the stretch has, less 1, if that letter
    // is among them, otherwise how many it has, and 1"; "of a production without symbols ... how many letters"
    private static void costsOfStretches() {
        StringBuilder with = new StringBuilder();
        StringBuilder without = new StringBuilder();
        StringBuilder all = new StringBuilder();
        costIs(1, "", p(0, 4));
        costIs(0, "", p(0));
        for (int length = 1; length < 13; length++) {
            without.append((char) ('b' + length % 5));
            all.append('a');
            costIs(length + 1, without.toString(), p(0, 4));
            costIs(length, without.toString(), p(0));
            costIs(length - 1, all.toString(), p(0, 4));
            for (int at = 0; at < length; at++) {
                with.setLength(0);
                with.append(without).setCharAt(at, 'a');
                costIs(length - 1, with.toString(), p(0, 4));
            }
        }
        costIs(2, "", p(0, 4, 4));
        costIs(1, "a", p(0, 4, 4));
        costIs(0, "aa", p(0, 4, 4));
        costIs(1, "aaa", p(0, 4, 4));
        costIs(4, "bb", p(0, 4, 4));
        costIs(1, "b", p(0, 1, 2), p(1), p(2));
        costIs(0, "b", p(0, 1, 2), p(1, 5), p(2));
        int[][] many = {p(0, 1, 1, 1), p(1, 2, 2, 2), p(2, 4, 4, 4)};
        costIs(27, "", many);
        costIs(26, "a", many);
        costIs(15, "aaaaaaaaaaaa", many);
        costIs(39, "bbbbbbbbbbbb", many);
    }

    // "To read a text is to find a tree for it whose root is of the nonterminal 0."
    private static void rootIsOfNonterminal0() {
        for (int nonterminal = 1; nonterminal < 4; nonterminal++) {
            costIs(-1, "a", p(nonterminal, 4));
            treeIs("a", new int[] {10}, p(nonterminal, 4), p(0));
            treeIs("a", new int[] {11, 1000}, p(nonterminal, 4), p(0, nonterminal));
        }
    }

    // "Of all trees for a text that one is taken whose cost is least; of these that with the fewest nodes"
    private static void costThenNodes() {
        treeIs("a", new int[] {11, 1000}, p(0), p(0, 4, 0));
        treeIs("", new int[] {0}, p(0), p(0, 4, 0));
        treeIs("aaa", new int[] {11, 1011, 2011, 3000}, p(0), p(0, 4, 0));
        treeIs("a", new int[] {20}, p(0, 1), p(1, 4), p(0, 4));
        treeIs("b", new int[] {20}, p(0, 1), p(1, 4), p(0, 4));
        treeIs("a", new int[] {1, 1010}, p(0, 1), p(1, 4), p(0, 5));
        treeIs("ab", new int[] {30}, p(0, 1, 2), p(1, 4), p(2, 5), p(0, 4, 5));
        treeIs("ab", new int[] {31, 1010}, p(0, 1, 1), p(1, 4, 5), p(1), p(0, 1));
    }

    // "of these, node by node from the root on, that with the production with the lowest number"
    private static void lowestNumber() {
        treeIs("a", new int[] {0}, p(0, 4), p(0, 4), p(0, 4));
        treeIs("b", new int[] {0}, p(0, 4), p(0, 6));
        treeIs("", new int[] {10}, p(1), p(0), p(0));
        // The root's number goes ahead of that of what is below it,
        treeIs("a", new int[] {1, 1030}, p(0, 2), p(0, 1), p(1, 4), p(2, 4));
        // and ahead of how it is cut.
        treeIs("a", new int[] {2, 1020, 1030}, p(0, 1, 2), p(0, 2, 1), p(1, 4), p(2));
        treeIs("a", new int[] {2, 1030, 1020}, p(0, 2, 1), p(0, 1, 2), p(1, 4), p(2));
        // Children are chosen in the same way.
        treeIs("a", new int[] {1, 1020}, p(0, 1), p(1, 5), p(1, 4), p(1, 4));
        treeIs("aa", new int[] {2, 1010, 1010}, p(0, 1, 1), p(1, 4), p(1, 4));
    }

    // "then that whose first symbol covers the shortest stretch, then that whose second one does"
    private static void shortestStretch() {
        // The first one on nothing, though its production is not the lowest then.
        treeIs("a", new int[] {2, 1020, 1010}, p(0, 1, 1), p(1, 4), p(1));
        treeIs("a", new int[] {3, 1020, 1020, 1010}, p(0, 1, 1, 1), p(1, 4), p(1));
        treeIs("aa", new int[] {3, 1020, 1010, 1010}, p(0, 1, 1, 1), p(1, 4), p(1));
        treeIs("ab", new int[] {2, 1020, 1030}, p(0, 1, 1), p(1, 4), p(1), p(1, 4, 5));
        // As long as it must be, and no longer.
        treeIs("ab", new int[] {2, 1010, 1020}, p(0, 1, 1), p(1, 4), p(1, 5));
        // In a child likewise.
        treeIs("a", new int[] {1, 1012, 2030, 2020}, p(0, 1), p(1, 2, 2), p(2, 4), p(2));
        // A letter as the first symbol, and as the second one.
        putIs("aa", new int[] {1, 0, 0}, p(0, 4, 4, 4));
        putIs("a", new int[] {1, 1, 0}, p(0, 4, 4, 4));
        putIs("ab", new int[] {1, 0, 0}, p(0, 4, 4, 5));
        putIs("ba", new int[] {1, 1, 0}, p(0, 4, 5, 5));
        putIs("abc", new int[] {0, 0, 0}, p(0, 4, 5, 6));
        putIs("", new int[] {1, 1, 1}, p(0, 4, 5, 6));
    }

    /** Which letters of the root are put in; the first production is that. */
    private static void putIs(String text, int[] due, int[]... productions) {
        Told t = Told.grammar(productions);
        t.text(text);
        for (int i = 0; i < due.length; i++) {
            int attribute = t.x.attribute(Told.UP);
            t.put(i).up(0, attribute);
            Due.is("put in '" + text + "', " + i, t.x.value(0, attribute), due[i]);
        }
    }

    // "If there is no tree (as no production comes to an end)"
    private static void noEnd() {
        treeIs("", new int[] {}, p(0, 0));
        treeIs("a", new int[] {}, p(0, 4, 0), p(0, 0, 0), p(0, 1));
        treeIs("a", new int[] {}, p(0, 1), p(1, 2), p(2, 3), p(3, 0));
        treeIs("a", new int[] {1, 1011, 2021, 3030}, p(0, 1), p(1, 2), p(2, 3), p(3, 4), p(3, 0));
    }

    private static final int[][] THIRTY_ONE = {p(0, 1, 1, 1), p(1, 2, 2, 2), p(2, 3, 3), p(3), p(2, 4, 3)};

    // "or it has more than 30 nodes, there is none": 31 of them for no letter, one less for each "a"
    private static void thirtyNodes() {
        Told t = Told.grammar(THIRTY_ONE);
        AttribArbor x = t.x;
        int up = x.attribute(Told.UP);
        t.self().up(3, up);
        Due.is("31 nodes: read", x.read(), 0);
        Due.is("31 nodes: cost", x.cost(), -1);
        Due.noPlace("31 nodes: node 0", () -> x.node(0));
        Due.noPlace("31 nodes: value", () -> x.value(0, up));
        Due.noPlace("31 nodes: valueAnew", () -> x.valueAnew(0, up));
        Due.noPlace("31 nodes: isKept", () -> x.isKept(0, up) ? 1 : 0);
        Due.noPlace("31 nodes: why", () -> x.why(0, up, 0));
        Due.noPlace("31 nodes: rewrite", () -> x.rewrite(0));
        Due.is("30 nodes: insert", x.insert(0, 'a'), 3000);
        Due.is("30 nodes: cost", x.cost(), 0);
        Due.is("30 nodes: node 28", x.node(28), 22041);
        Due.is("30 nodes: node 29", x.node(29), 29030);
        Due.noPlace("30 nodes: node 30", () -> x.node(30));
        Due.is("30 nodes: a reference to the last one", x.value(29, up), 1029);
        Due.is("30 nodes: read again", x.read(), 3030);
        Due.is("29 nodes", x.insert(0, 'a'), 2927);
        Due.is("30 nodes again", x.delete(0), 3027);
        Due.is("31 nodes: delete", x.delete(0), 0);
        Due.noPlace("31 nodes: node 29", () -> x.node(29));
        Due.is("31 nodes: cost again", x.cost(), -1);
        Due.is("30 nodes: all of them new", x.insert(0, 'a'), 3000);
        Due.is("30 nodes and a letter left out", x.insert(0, 'f'), 3030);
    }

    /** A dearer tree, or one with more nodes for another choice, is not taken in its place. */
    private static void noOtherInItsPlace() {
        int[][] with = new int[6][];
        System.arraycopy(THIRTY_ONE, 0, with, 0, 5);
        with[5] = p(0, 9);
        costIs(-1, "", with);
        costIs(0, "a", with);
        with[5] = p(0);
        costIs(0, "", with);
        treeIs("", new int[] {50}, with);
    }

    // "a node comes ahead of its children, a child with all below it ahead of the next one; the root is 0"
    private static void numbers() {
        treeIs("abcdef", new int[] {3, 1021, 2030, 1021, 4030, 1012, 6030, 6040},
                p(0, 1, 1, 1), p(1, 2, 3), p(1, 2), p(2, 4), p(3, 5));
        treeIs("aaaaaaaaaaaa", new int[] {1, 1001, 2001, 3001, 4001, 5001, 6001, 7001, 8001, 9001, 10001, 11001, 12010},
                p(0, 4, 0), p(0));
        Told t = Told.grammar(p(1, 4), p(1), p(1), p(1), p(1), p(1), p(1), p(1), p(1), p(0, 1, 1, 1));
        t.text("aaa");
        nodesAre("the last production", t.x, 93, 1000, 1000, 1000);
    }

    // "where both have a node of the same production at the same place ... and in both the same letters are
    // there and put in, the node is kept; otherwise it and all below it are new"
    private static void keptByLetters() {
        for (int letter = 0; letter < 3; letter++) {
            Told t = Told.grammar(p(0, 4, 5, 6));
            t.text("abc");
            Due.is("kept: the same again", t.x.read(), 101);
            Due.is("kept: letter " + letter + " is put in", t.x.delete(letter), 100);
            Due.is("kept: it is put in again", t.x.read(), 101);
            Due.is("kept: letter " + letter + " is there", t.x.insert(letter, 'a' + letter), 100);
            for (int place = 0; place < 4; place++) {
                Due.is("kept: a letter is left out at " + place, t.x.insert(place, 'f'), 101);
                Due.is("kept: and no more at " + place, t.x.delete(place), 101);
            }
        }
        Told t = Told.grammar(p(0, 4, 5));
        t.text("a");
        Due.is("kept: another letter is put in", t.x.insert(0, 'b'), 100);
        Due.is("kept: another letter is put in, cost", t.x.cost(), 2);
        t = Told.grammar(p(0, 4, 1, 5), p(1, 6));
        t.text("acb");
        Due.is("kept: a letter ahead of the child", t.x.delete(0), 200);
        Due.is("kept: a letter behind the child", t.x.delete(1), 200);
        Due.is("kept: the child's letter", t.x.delete(0), 201);
    }

    private static void keptByPlace() {
        Told t = Told.grammar(p(0, 4, 1), p(0, 5, 1), p(1, 6));
        t.text("ac");
        Due.is("kept: \"b\" is left out", t.x.insert(0, 'b'), 202);
        Due.is("kept: none below a new one", t.x.delete(1), 200);
        t = Told.grammar(p(0, 1, 1), p(1, 4), p(1, 5));
        t.text("ab");
        Due.is("kept: the second child", t.x.delete(0), 302);
        Due.is("kept: the root alone", t.x.insert(1, 'a'), 301);
        Due.is("kept: neither moves to the other place", t.x.delete(1), 301);
        t = Told.grammar(p(0, 1, 1, 1), p(1, 4, 2), p(1, 5, 2), p(2, 6), p(2, 7));
        t.text("acacac");
        Due.is("kept: the lower one of two that are there", t.x.insert(6, 'd'), 707);
        Due.is("kept: all but a child's child", t.x.delete(5), 706);
        Due.is("kept: all but one child, and what is below it", t.x.delete(2), 705);
        Due.is("kept: its letter is there", t.x.insert(2, 'b'), 705);
    }

    // "it and all below it are new", also when the tree was none, or is another one by its productions
    private static void keptNever() {
        Told t = Told.grammar(p(0, 1), p(1, 4));
        t.text("a");
        t.x.production(0, 4, -1, -1);
        Due.is("kept: none, the root is of another production", t.x.read(), 100);
        t.x.production(1, 4, -1, -1);
        Due.is("kept: the same tree with other productions there", t.x.read(), 101);
        Due.is("kept: the first tree has none", Told.grammar(p(0)).x.read(), 100);
    }

    // "A node can be rewritten ...: if an attribute of it is a number above 0"
    private static void rewrittenAboveZero() {
        int[] numbers = {0, 1, 2, 998, 999};
        for (int number : numbers) {
            Told t = Told.grammar(p(0, 4), p(0, 5));
            t.x.attribute(Told.UP);
            t.number(number).up(0, 0);
            t.x.rule(0, 0, 1);
            t.text("a");
            Due.is("rewrite by " + number, t.x.rewrite(0), number == 0 ? 0 : 1);
            Due.is("rewrite by " + number + ", found", t.x.found(), 1);
            Due.is("rewrite by " + number + ", dropped", t.x.isKept(0, 0), number == 0);
            Due.is("rewrite by " + number + ", as it was read", t.x.node(0), 0);
        }
    }

    // A reference is no number above 0, be it to the root or to another node; nor are NONE, CYCLE, CONFLICT.
    private static void rewrittenByNothingElse() {
        for (int i = 0; i < 5; i++) {
            Told t = Told.grammar(p(0, 4, 1), p(0, 5, 1), p(1));
            t.x.attribute(Told.UP);
            if (i == 0) {
                t.self().up(0, 0);
            } else if (i == 1) {
                t.at(0).up(0, 0);
            } else if (i == 2) {
                t.own(0).up(0, 0);
            } else if (i == 3) {
                t.number(1).up(0, 0);
                t.number(1).up(0, 0);
            }
            t.x.rule(0, 0, 1);
            t.text("a");
            Due.is("rewrite by no number, " + i, t.x.rewrite(0), 0);
            Due.is("rewrite by no number, found " + i, t.x.found(), 1);
            Due.is("rewrite by no number, kept " + i, t.x.isKept(0, 0), true);
        }
    }

    // "Rewrites a node, if there is a rule for its production"; "Returns its production then."
    private static void rewrittenByRules() {
        Told t = Told.grammar(p(0, 4, 0), p(0, 5, 0), p(0, 6, 0), p(0));
        AttribArbor x = t.x;
        for (int i = 0; i < 6; i++) {
            x.attribute(Told.UP);
        }
        t.number(1).up(0, 5);
        t.kind().up(1, 5);
        t.kind().up(2, 5);
        t.text("aa");
        for (int bad : new int[] {LOW, -1, 3, HIGH}) {
            Due.noPlace("rewrite: node " + bad, () -> x.rewrite(bad));
        }
        Due.is("rewrite: no rule", x.rewrite(0), 0);
        Due.is("rewrite: no rule, the last node", x.rewrite(2), 3);
        Due.is("rewrite: no rule, nothing found", x.found(), 0);
        x.rule(1, 5, 2);
        Due.is("rewrite: a rule for another production", x.rewrite(0), 0);
        x.rule(0, 0, 1);
        Due.is("rewrite: another attribute", x.rewrite(0), 0);
        x.rule(0, 5, 1);
        Due.is("rewrite: once", x.rewrite(0), 1);
        Due.is("rewrite: on by the next rule", x.rewrite(0), 2);
        Due.is("rewrite: no rule there", x.rewrite(0), 2);
        x.rule(2, 5, 0);
        Due.is("rewrite: back", x.rewrite(0), 0);
        Due.is("rewrite: the other node is as it was", x.value(1, 5), 1);
        Due.is("rewrite: and again", x.rewrite(0), 1);
        Due.is("rewrite: it is compared as it was read", x.read(), 303);
        Due.is("rewrite: and stays rewritten", x.value(0, 5), 1);
        Due.is("rewrite: the other one's", x.rewrite(1), 1);
        Due.is("rewrite: one letter less, the root is kept", x.delete(1), 201);
        Due.is("rewrite: it stays rewritten", x.rewrite(0), 2);
        Due.is("rewrite: a new one is not", x.insert(1, 'a'), 301);
        Due.is("rewrite: as it is read", x.value(1, 5), 1);
        Due.is("rewrite: the new one is told as it was read", x.node(1), 1001);
    }

    // "It keeps that as long as the node is kept."
    private static void rewrittenNoMore() {
        Told t = Told.grammar(p(0, 4), p(0, 5));
        AttribArbor x = t.x;
        int kind = x.attribute(Told.UP);
        t.number(5).up(0, kind);
        t.number(6).up(1, kind);
        x.rule(0, kind, 1);
        t.text("a");
        x.rewrite(0);
        Due.is("rewritten", x.value(0, kind), 6);
        x.insert(1, 'f');
        Due.is("rewritten, a letter left out", x.value(0, kind), 6);
        x.rule(0, kind, 1);
        x.toggle(3);
        Due.is("rewritten, all dropped", x.value(0, kind), 6);
        Due.is("rewritten, its letter put in: another node", x.delete(0), 100);
        Due.is("rewritten no more", x.value(0, kind), 5);
        x.rewrite(0);
        x.delete(0);
        Due.is("rewritten, the letter is put in still", x.value(0, kind), 6);
        Due.is("rewritten, it is there: another node", x.insert(0, 'a'), 100);
        Due.is("rewritten no more, again", x.value(0, kind), 5);
    }

    public static void main(String[] args) {
        places();
        orderOfLetters();
        letters();
        noProduction();
        costAtFirst();
        costsOfStretches();
        rootIsOfNonterminal0();
        costThenNodes();
        lowestNumber();
        shortestStretch();
        noEnd();
        thirtyNodes();
        noOtherInItsPlace();
        numbers();
        keptByLetters();
        keptByPlace();
        keptNever();
        rewrittenAboveZero();
        rewrittenByNothingElse();
        rewrittenByRules();
        rewrittenNoMore();
        Due.end("EdgeTreeTest");
    }
}
