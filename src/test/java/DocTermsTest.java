/**
 * The document from its first line to the promises: each sentence quoted, and tried. What stands in it and
 * is not quoted here fails the test.
 */
public final class DocTermsTest {
    private static final int NONE = AttribArbor.NONE;
    private static final int REFERENCE = AttribArbor.REFERENCE;
    private static final int UP = Told.UP, DOWN = Told.DOWN, GATHERED = Told.GATHERED, RING = Told.RING;
    private static final int A = 4, B = 5, C = 6, D = 7;

    private static final Document DOC = new Document();

    private static int[] p(int... row) {
        return Told.p(row);
    }

    private static void costIs(int due, String text, int[]... productions) {
        Told t = Told.grammar(productions);
        t.text(text);
        Due.is("cost of '" + text + "'", t.x.cost(), due);
    }

    /** What node() tells of each node of the tree for a text, and that there are no more. */
    private static void treeIs(String text, int[] due, int[]... productions) {
        Told t = Told.grammar(productions);
        Due.is("nodes for '" + text + "'", t.text(text) / 100, due.length);
        for (int n = 0; n < due.length && n < t.x.read() / 100; n++) {
            Due.is("node " + n + " for '" + text + "'", t.x.node(n), due[n]);
        }
        Due.noPlace("no more nodes for '" + text + "'", () -> t.x.node(due.length));
    }

    private static void whatItIs() {
        DOC.section("AttribArbor");
        DOC.section("What it is");
        DOC.says("A generator of compilers by attributes.");
        Told t = Told.grammar(p(0, 1, C, 0), p(0, 1), p(1, A), p(1, B));
        int sum = t.x.attribute(UP);
        t.child(sum, 0).child(sum, 1).add().up(0, sum);
        t.child(sum, 0).up(1, sum);
        t.letter(0).up(2, sum);
        t.letter(0).up(3, sum);
        Due.is("'acbcb' is read", t.text("acbcb") / 100, 6);
        Due.is("'acbcb' is worked out", t.ask(0, sum), 5);

        DOC.says("An object is used for at most 512 calls after it has been made; what later calls answer is free.");
        AttribArbor x = new AttribArbor();
        Due.is("call 1", x.production(0, -1, -1, -1), 0);
        Due.is("call 2", x.read(), 100);
        for (int call = 3; call <= 512; call++) {
            Due.is("call " + call, x.read(), 101);
        }
    }

    private static String plain(String text) {
        return text.replaceAll("\\s+", " ").trim();
    }

    // The face stands in the class as it stands in the document, line by line; FaceTest looks for more members.
    private static void publicFace() {
        DOC.section("The public face");
        String source = plain(Document.source());
        int at = -1;
        for (String line : DOC.code().split("\n")) {
            String member = plain(line).replaceAll(";$", "");
            if (member.isEmpty() || member.equals("}")) {
                continue;
            }
            int next = source.indexOf(member, at + 1);
            Due.is("the class has, in its place: " + member, next > at, true);
            at = next > at ? next : at;
        }
    }

    private static void overview() {
        DOC.section("Terms");
        DOC.says("A grammar reads a text, with the repair that costs least;");
        int[][] list = {p(0, A, 0), p(0, B)};
        costIs(0, "aab", list);
        costIs(1, "aa", list);
        costIs(1, "aacb", list);

        DOC.says("the tree is kept where a changed text leaves it as it was;");
        Told t = Told.grammar(list);
        t.text("ab");
        Due.is("one more: two stay as they were", t.x.insert(0, 'a'), 301);
        Due.is("the last letter: all but the last node", t.x.delete(2), 302);

        DOC.says("nodes are rewritten when attributes are asked behind a change;");
        t = Told.grammar(p(0, A), p(0, B));
        int kind = t.x.attribute(UP);
        t.kind().number(1).add().up(0, kind);
        t.kind().number(1).add().up(1, kind);
        t.x.rule(0, kind, 1);
        t.text("a");
        Due.is("asking alone rewrites nothing", t.ask(0, kind), 1);
        Due.is("asked behind a change, it is rewritten", t.x.rewrite(0), 1);
        Due.is("it is another production now", t.ask(0, kind), 2);

        overviewOfAttributes();

        DOC.says("what was found is kept with what it read, and dropped when that is touched;");
        t = Told.grammar(list);
        int up = t.x.attribute(UP);
        t.child(up, 0).up(0, up);
        t.number(3).up(1, up);
        t.text("ab");
        t.ask(0, up);
        Due.is("kept", t.x.isKept(0, up) && t.x.isKept(1, up), true);
        t.x.delete(1);
        Due.is("what it read is touched", t.x.isKept(0, up), false);

        DOC.says("equations come by aspects, with conflicts told;");
        t = Told.grammar(p(0));
        t.x.attribute(UP);
        t.number(4);
        t.x.equation(0, 0, -1, 1);
        t.number(5);
        t.x.equation(0, 0, -1, 2);
        t.x.read();
        Due.is("two aspects", t.x.conflicts(), 2);
        t.x.toggle(1);
        Due.is("one aspect", t.ask(0, 0), 5);

        DOC.says("and it can be asked why a value is as it is.");
        t = Told.grammar(list);
        t.x.attribute(UP);
        t.child(0, 0).up(0, 0);
        t.text("ab");
        Due.is("as it is so at the child", t.x.why(0, 0, 0), 10);
    }

    private static void overviewOfAttributes() {
        DOC.says("attributes go up, down, over remote places and by references, are gathered from anywhere, "
                + "forwarded to other trees, and iterated in rings where that is allowed;");
        Told t = Told.grammar(p(0, A, 1), p(1, B, 2), p(2, C), p(1, D, 2));
        int up = t.x.attribute(UP);
        int down = t.x.attribute(DOWN);
        int byReference = t.x.attribute(UP);
        int gathered = t.x.attribute(GATHERED);
        int ring = t.x.attribute(RING);
        t.letter(0).up(2, up);
        t.child(up, 0).number(1).add().up(3, up);
        t.child(up, 0).up(0, up);
        t.x.forward(1, 3, 0, 0, 0);
        t.at(0).down(0, down, 0);
        t.own(down).of(up).up(2, byReference);
        t.own(down).number(5).gift(2, gathered);
        t.own(ring).number(6).max().up(2, ring);
        t.text("abc");
        Due.is("up, by a forward", t.ask(0, up), 4);
        Due.is("down, over a remote place", t.ask(2, down), REFERENCE + 1);
        Due.is("by a reference", t.ask(2, byReference), 4);
        Due.is("gathered from below", t.ask(1, gathered), 5);
        Due.is("nothing gathered", t.ask(0, gathered), 0);
        Due.is("in a ring", t.ask(2, ring), 6);
    }

    private static void grammars() {
        DOC.section("Grammars and texts");
        DOC.says("There are the nonterminals 0 to 3; 0 is where texts begin.");
        Told t = new Told();
        Due.noPlace("nonterminal -1", () -> t.x.production(-1, A, -1, -1));
        Due.noPlace("nonterminal 4", () -> t.x.production(4, A, -1, -1));
        for (int n = 3; n >= 0; n--) {
            Due.is("nonterminal " + n, t.x.production(n, A, -1, -1), 3 - n);
            Due.is("a text for " + n + " and above", t.x.read(), n == 0 ? 100 : 0);
        }
        Due.is("the root is of 0", t.x.node(0), 30);

        DOC.says("The letters are \"a\" to \"f\".");
        Due.badArgument("a letter ahead of \"a\"", () -> t.x.insert(0, 'a' - 1));
        Due.badArgument("a letter behind \"f\"", () -> t.x.insert(0, 'f' + 1));
        for (char letter = 'a'; letter <= 'f'; letter++) {
            Due.is("letter " + letter, t.x.insert(0, letter) / 100, 1);
        }

        DOC.says("A symbol is a nonterminal, 0 to 3, or a letter, told as 4 to 9.");
        for (int n = 1; n < 4; n++) {
            treeIs("a", new int[] {1, 1010}, p(0, n), p(n, A));
        }
        costIs(-1, "a", p(0, 0), p(1, A));
        for (int symbol = 4; symbol < 10; symbol++) {
            costIs(0, String.valueOf((char) ('a' + symbol - 4)), p(0, symbol));
        }

        DOC.says("A production has a nonterminal and 0 to 3 symbols; productions are numbered from 0, at most 10.");
        Told u = new Told();
        for (int i = 0; i < 10; i++) {
            int[] s = {i % 4 > 0 ? A : -1, i % 4 > 1 ? B : -1, i % 4 > 2 ? C : -1};
            Due.is("production " + i, u.x.production(0, s[0], s[1], s[2]), i);
        }
        Due.notNow("production 10", () -> u.x.production(0, A, -1, -1));
        Due.is("without symbols", u.text("") == 100 && u.x.cost() == 0 && u.x.node(0) == 0, true);
        Due.is("with one", u.x.insert(0, 'a') == 100 && u.x.cost() == 0 && u.x.node(0) == 10, true);
        Due.is("with two", u.x.insert(1, 'b') == 100 && u.x.cost() == 0 && u.x.node(0) == 20, true);
        Due.is("with three", u.x.insert(2, 'c') == 100 && u.x.cost() == 0 && u.x.node(0) == 30, true);
    }

    private static void childrenAndLetters() {
        DOC.says("The children of a node of a production are nodes of the productions of its nonterminal symbols, "
                + "numbered from 0 in their order;");
        Told t = Told.grammar(p(0, 1, B, 2), p(1, A), p(2, C));
        t.x.attribute(UP);
        t.letter(0).up(1, 0);
        t.letter(0).up(2, 0);
        t.child(0, 0).number(10).mul().child(0, 1).add().up(0, 0);
        t.text("abc");
        Due.is("two children", t.x.node(0), 2);
        Due.is("child 0 is \"a\", child 1 is \"c\"", t.ask(0, 0), 13);

        DOC.says("its letters are those symbols that are letters, numbered from 0 likewise.");
        t = Told.grammar(p(0, D, 1, B), p(1));
        for (int i = 0; i < 3; i++) {
            t.x.attribute(UP);
            t.letter(i).up(0, i);
        }
        t.text("db");
        Due.is("letter 0 is \"d\"", t.ask(0, 0), 4);
        Due.is("letter 1 is \"b\"", t.ask(0, 1), 2);
        Due.is("there is no letter 2", t.ask(0, 2), NONE);
    }

    private static void costs() {
        DOC.says("A text has at most 12 letters.");
        AttribArbor x = Told.grammar(p(0)).x;
        for (int i = 0; i < 12; i++) {
            Due.is("letter number " + i, x.insert(i, 'a') / 100, 1);
        }
        Due.notNow("the 13th letter", () -> x.insert(12, 'a'));

        DOC.says("To read a text is to find a tree for it whose root is of the nonterminal 0.");
        treeIs("a", new int[] {10}, p(1, A), p(0, B), p(2, A));

        DOC.says("A node of a production covers a stretch of the text, its symbols stretches one behind the other "
                + "that are all of it together.");
        costIs(0, "ab", p(0, A, B));
        costIs(2, "ba", p(0, A, B));
        costIs(1, "cab", p(0, A, B));
        costIs(1, "acb", p(0, A, B));
        costIs(1, "abc", p(0, A, B));
        treeIs("ab", new int[] {2, 1010, 1020}, p(0, 1, 2), p(1, A), p(2, B));

        DOC.says("The cost of a letter that covers a stretch is how many letters the stretch has, less 1, if that "
                + "letter is among them (the others are left out), otherwise how many it has, and 1 (it is put in);");
        costIs(0, "a", p(0, A));
        costIs(3, "bacd", p(0, A));
        costIs(3, "aaaa", p(0, A));
        costIs(1, "", p(0, A));
        costIs(4, "bcd", p(0, A));

        DOC.says("the cost of a production without symbols is how many letters the stretch has;");
        costIs(0, "", p(0));
        costIs(3, "abc", p(0));

        DOC.says("the cost of a node otherwise the sum of the costs of its symbols.");
        costIs(3, "", p(0, A, 1, B), p(1, C));
        costIs(2, "b", p(0, A, 1, B), p(1, C));
        costIs(2, "abdd", p(0, A, 1, B), p(1));
    }

    private static void treeThatIsTaken() {
        DOC.says("Of all trees for a text that one is taken whose cost is least;");
        treeIs("aa", new int[] {11, 1011, 2000}, p(0), p(0, A, 0));
        treeIs("aa", new int[] {10}, p(0), p(0, A, A));

        DOC.says("of these that with the fewest nodes;");
        treeIs("a", new int[] {20}, p(0, 1), p(1, A), p(0, A));
        treeIs("", new int[] {20}, p(0, 0, 0), p(0, 1), p(0), p(1));

        DOC.says("of these, node by node from the root on, that with the production with the lowest number, then "
                + "that whose first symbol covers the shortest stretch, then that whose second one does; children "
                + "are chosen in the same way.");
        treeIs("a", new int[] {10}, p(1, A), p(0, A), p(0, A), p(0, B));
        treeIs("a", new int[] {2, 1020, 1010}, p(0, 1, 1), p(1, A), p(1));
        treeIs("a", new int[] {3, 1020, 1020, 1010}, p(0, 1, 1, 1), p(1, A), p(1));
        treeIs("a", new int[] {1, 1012, 2030, 2020}, p(0, 1), p(1, 2, 2), p(2, A), p(2));
        treeIs("aa", new int[] {2, 1010, 1010}, p(0, 1, 1), p(1, A), p(1, A));

        DOC.says("If there is no tree (as no production comes to an end), or it has more than 30 nodes, there is none.");
        treeIs("a", new int[] {}, p(0, A, 0), p(0, 1), p(1, 0));
        Told t = Told.grammar(p(0, 1, 1, 1), p(1, 2, 2, 2), p(2, 3, 3), p(2, A, 3), p(3));
        Due.is("31 nodes", t.x.read(), 0);
        Due.is("31 nodes: no tree", t.x.cost(), -1);
        Due.is("30 nodes", t.x.insert(0, 'a'), 3000);

        DOC.says("Nodes are told by their numbers in the tree: a node comes ahead of its children, a child with all "
                + "below it ahead of the next one; the root is 0.");
        treeIs("ab", new int[] {2, 1011, 2020, 1031, 4040}, p(0, 1, 3), p(1, 2), p(2, A), p(3, 2), p(2, B));
    }

    private static void keptNodes() {
        DOC.says("When the text becomes another one, the new tree is compared with the old one, from the root on:");
        DOC.says("where both have a node of the same production (as it was read, ahead of being rewritten) at the "
                + "same place, which is at the root, or as the same child of nodes that are kept, and in both the "
                + "same letters are there and put in, the node is kept; otherwise it and all below it are new.");
        Told t = Told.grammar(p(0, A, 1, 1), p(1, B), p(1, C), p(0, D, 1, 1));
        t.x.attribute(UP);
        t.number(1).up(1, 0);
        t.x.rule(1, 0, 2);
        t.text("abb");
        Due.is("kept: all", t.x.read(), 303);
        t.x.rewrite(2);
        Due.is("kept: as it was read", t.x.read(), 303);
        Due.is("kept: the first child's letter is put in, the second one's is there", t.x.delete(2), 302);
        Due.is("kept: it is there, and the second one is of another production", t.x.insert(2, 'c'), 301);
        Due.is("kept: it is put in again", t.x.delete(1), 302);
        Due.is("kept: the same letter put in", t.x.read(), 303);
        Due.is("kept: the letter is there", t.x.insert(1, 'b'), 302);
        Due.is("kept: \"d\" is left out", t.x.insert(0, 'd'), 303);
        Due.is("kept: none below a new root", t.x.delete(1), 300);

        DOC.says("A node can be rewritten, by a rule of its production: if an attribute of it is a number above 0, "
                + "the node gets another production of the same nonterminal, with as many children and letters, and "
                + "the same nonterminals of its children in their order;");
        for (int number = 0; number < 3; number++) {
            Told u = Told.grammar(p(0, A, 1), p(0, 1, B), p(1), p(0, A, 2), p(0, 1), p(2));
            u.x.attribute(UP);
            u.number(number).up(0, 0);
            Due.badArgument("rule: other nonterminals of children", () -> u.x.rule(0, 0, 3));
            Due.badArgument("rule: no letter", () -> u.x.rule(0, 0, 4));
            Due.is("rule: as many of all", u.x.rule(0, 0, 1), -1);
            u.text("a");
            Due.is("rewrite by " + number, u.x.rewrite(0), number > 0 ? 1 : 0);
        }

        rewrittenNodes();
    }

    private static void rewrittenNodes() {
        DOC.says("it, its children and its letters stay else.");
        Told t = Told.grammar(p(0, A, 1), p(0, 1, B), p(1));
        int go = t.x.attribute(UP);
        int self = t.x.attribute(UP);
        int letter = t.x.attribute(UP);
        int put = t.x.attribute(UP);
        int at = t.x.attribute(UP);
        t.number(1).up(0, go);
        t.x.rule(0, go, 1);
        t.self().up(1, self);
        t.letter(0).up(1, letter);
        t.put(0).up(1, put);
        t.at(0).up(1, at);
        t.text("a");
        t.x.rewrite(0);
        Due.is("rewritten: itself", t.ask(0, self), REFERENCE);
        Due.is("rewritten: its letter is \"a\" still", t.ask(0, letter), 1);
        Due.is("rewritten: it is there still", t.ask(0, put), 0);
        Due.is("rewritten: its child", t.ask(0, at), REFERENCE + 1);
        Due.is("rewritten: told as it was read", t.x.node(0), 1);

        DOC.says("It keeps that as long as the node is kept.");
        t.x.insert(1, 'f');
        Due.is("kept: rewritten still", t.x.valueAnew(0, letter), 1);
        t.x.toggle(3);
        Due.is("kept: rewritten still, when it is asked again", t.ask(0, letter), 1);
        t.x.delete(0);
        Due.is("its letter is put in: new", t.ask(0, letter), NONE);
    }

    public static void main(String[] args) {
        whatItIs();
        publicFace();
        overview();
        grammars();
        childrenAndLetters();
        costs();
        treeThatIsTaken();
        keptNodes();
        DOC.allIsQuotedUpTo("Attributes and equations");
        Due.end("DocTermsTest");
    }
}
