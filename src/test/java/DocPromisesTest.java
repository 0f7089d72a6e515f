import java.lang.reflect.Constructor;
import java.lang.reflect.Method;

/**
 * The promises of the document, 1 to 22, and what it does not promise: each sentence quoted, and tried. What
 * stands there and is not quoted here fails the test.
 */
public final class DocPromisesTest {
    private static final int NONE = AttribArbor.NONE;
    private static final int CYCLE = AttribArbor.CYCLE;
    private static final int CONFLICT = AttribArbor.CONFLICT;
    private static final int REFERENCE = AttribArbor.REFERENCE;
    private static final int UP = Told.UP, DOWN = Told.DOWN, GATHERED = Told.GATHERED, RING = Told.RING;
    private static final int A = 4, B = 5, C = 6, D = 7;

    private static final Document DOC = new Document();

    private static int[] p(int... row) {
        return Told.p(row);
    }

    /** Quotes how a call is written, and looks whether the class has just that. */
    private static void call(String written) {
        DOC.says(written);
        String name = written.replaceAll("^\\w+ (\\w+)\\(.*", "$1");
        int found = 0;
        for (Method method : AttribArbor.class.getMethods()) {
            if (!method.getName().equals(name)) {
                continue;
            }
            found++;
            StringBuilder types = new StringBuilder(method.getReturnType() + " " + name + "(");
            for (Class<?> type : method.getParameterTypes()) {
                types.append(types.charAt(types.length() - 1) == '(' ? "" : ", ").append(type);
            }
            types.append(")");
            for (Class<?> thrown : method.getExceptionTypes()) {
                types.append(types.charAt(types.length() - 1) == ')' ? " throws " : ", ").append(thrown.getSimpleName());
            }
            // The names of the parameters are not in the class file.
            String due = written.replaceAll("(int) \\w+([,)])", "$1$2");
            Due.is(types + " is " + due, types.toString().equals(due), true);
        }
        Due.is("calls named " + name, found, 1);
    }

    private static void newObject() {
        DOC.section("Promise 1: A new object");
        DOC.says("AttribArbor():");
        Constructor<?>[] constructors = AttribArbor.class.getConstructors();
        Due.is("one constructor, without parameters", constructors.length == 1
                && constructors[0].getParameterCount() == 0, true);

        DOC.says("Creates a generator without productions, attributes and equations, and an empty text.");
        Told t = new Told();
        Due.noPlace("no production", () -> t.x.forward(0, -1, 0, 0, 0));
        Due.noPlace("no attribute", () -> t.x.step(1, 0, 0));
        Due.is("no equations in conflict", t.x.conflicts(), 0);
        Due.is("no letter is left out", Told.grammar(p(0)).text(""), 100);
        Due.is("the first production", t.x.production(0, -1, -1, -1), 0);
        Due.is("the first attribute", t.x.attribute(UP), 0);
        Due.is("the first equation", t.number(1).up(0, 0), 0);
        Due.noPlace("no letter", () -> t.x.delete(0));
        Due.is("no tree", t.x.cost(), -1);
        Due.is("nothing was found", t.x.found(), 0);
    }

    private static void production() {
        DOC.section("Promise 2: production");
        call("int production(int nonterminal, int first, int second, int third) throws IndexOutOfBoundsException, "
                + "IllegalArgumentException, IllegalStateException");
        DOC.says("Adds a production.");
        AttribArbor x = new AttribArbor();
        x.production(0, 4, -1, -1);
        Due.is("it is there", x.read(), 100);
        x.production(0, -1, -1, -1);
        Due.is("another one is there", x.read(), 100);

        DOC.says("nonterminal: 0 to 3");
        for (int n = 0; n < 4; n++) {
            Due.is("nonterminal " + n, x.production(n, -1, -1, -1), 2 + n);
        }

        DOC.says("first: a symbol, 0 to 9, or -1 if there are no more");
        DOC.says("second: likewise; -1 if first is");
        DOC.says("third: likewise; -1 if second is");
        for (int s = -1; s < 10; s++) {
            AttribArbor y = new AttribArbor();
            Due.is("first " + s, y.production(0, s, -1, -1), 0);
            Due.is("second " + s, y.production(0, 0, s, -1), 1);
            Due.is("third " + s, y.production(0, 0, 0, s), 2);
        }
        Due.badArgument("second, though there is no first", () -> x.production(0, -1, 0, -1));
        Due.badArgument("third, though there is no second", () -> x.production(0, 0, -1, 0));
        Due.badArgument("third, though there is no first", () -> x.production(0, -1, -1, 0));

        DOC.says("Returns its number.");
        Due.is("the next number", x.production(0, A, B, C), 6);

        DOC.says("Throws IndexOutOfBoundsException if there is no such nonterminal");
        Due.noPlace("nonterminal -1", () -> x.production(-1, A, -1, -1));
        Due.noPlace("nonterminal 4", () -> x.production(4, A, -1, -1));

        DOC.says("Throws IllegalArgumentException if first, second or third is out of range");
        for (int bad : new int[] {-2, 10}) {
            Due.badArgument("first " + bad, () -> x.production(0, bad, -1, -1));
            Due.badArgument("second " + bad, () -> x.production(0, 1, bad, -1));
            Due.badArgument("third " + bad, () -> x.production(0, 1, 1, bad));
        }

        DOC.says("Throws IllegalStateException if there are 10");
        for (int i = 7; i < 10; i++) {
            Due.is("number " + i, x.production(0, A, -1, -1), i);
        }
        Due.notNow("the 11th", () -> x.production(0, A, -1, -1));
    }

    private static void forward() {
        DOC.section("Promise 3: forward");
        call("int forward(int production, int other, int first, int second, int third) throws IndexOutOfBoundsException, "
                + "IllegalArgumentException");
        Told t = Told.grammar(p(0, 1, 1, 2), p(0, 1, 2, 1), p(0, A), p(3, A), p(1), p(2)).attributes(UP);
        AttribArbor x = t.x;
        t.at(0).up(1, 0);
        t.number(3).up(2, 0);
        x.read();

        DOC.says("Lets a production forward to another one, in place of what it forwarded to.");
        Due.is("ahead of it", t.ask(0, 0), NONE);
        Due.is("to the production 1", x.forward(0, 1, 1, 2, 0), -1);
        Due.is("it forwards to 1", t.ask(0, 0), REFERENCE + 2);
        Due.is("to the production 2 in its place", x.forward(0, 2, 0, 0, 0), 1);
        Due.is("it forwards to 2", t.ask(0, 0), 3);

        DOC.says("production: a production");
        DOC.says("other: another production of the same nonterminal, or -1 to forward no more");
        Due.is("no more", x.forward(0, -1, 0, 0, 0), 2);
        Due.is("it forwards no more", t.ask(0, 0), NONE);
        Due.is("no more still", x.forward(0, -1, 0, 0, 0), -1);

        DOC.says("first: the child that stands for the child 0 of the other one; 0 if it has no such one, or other is -1");
        DOC.says("second: likewise for its child 1");
        DOC.says("third: likewise for its child 2");
        for (int child = 0; child < 3; child++) {
            Told u = Told.grammar(p(0, 1, 1, 1), p(0, 1, 1, 1), p(1)).attributes(UP, UP, UP);
            for (int i = 0; i < 3; i++) {
                u.at(i).up(1, i);
            }
            u.x.read();
            u.x.forward(0, 1, child, (child + 1) % 3, (child + 2) % 3);
            for (int i = 0; i < 3; i++) {
                Due.is("stands for " + i + " from " + child, u.ask(0, i), REFERENCE + 1 + (child + i) % 3);
            }
        }
        Due.badArgument("the other one has no child 0", () -> x.forward(0, 2, 1, 0, 0));
        Due.badArgument("the other one has no child 1", () -> x.forward(0, 2, 0, 1, 0));
        Due.badArgument("the other one has no child 2", () -> x.forward(0, 2, 0, 0, 1));
        Due.badArgument("there is no other one: first", () -> x.forward(0, -1, 1, 0, 0));
        Due.badArgument("there is no other one: second", () -> x.forward(0, -1, 0, 1, 0));
        Due.badArgument("there is no other one: third", () -> x.forward(0, -1, 0, 0, 1));

        DOC.says("Returns what it forwarded to before, -1 if to none.");
        Due.is("to none before", x.forward(1, 0, 0, 2, 1), -1);
        Due.is("to 0 before", x.forward(1, 2, 0, 0, 0), 0);
        Due.is("to 2 before", x.forward(1, -1, 0, 0, 0), 2);

        DOC.says("Throws IndexOutOfBoundsException if there is no such production, of either, or no such child");
        Due.noPlace("no production 6", () -> x.forward(6, 0, 0, 0, 0));
        Due.noPlace("no other 6", () -> x.forward(0, 6, 0, 0, 0));
        Due.noPlace("no other -2", () -> x.forward(0, -2, 0, 0, 0));
        for (int bad : new int[] {-1, 3}) {
            Due.noPlace("no child " + bad + " first", () -> x.forward(0, 1, bad, 2, 0));
            Due.noPlace("no child " + bad + " second", () -> x.forward(0, 1, 0, bad, 0));
            Due.noPlace("no child " + bad + " third", () -> x.forward(0, 1, 0, 2, bad));
        }

        DOC.says("Throws IllegalArgumentException if other is the same, or of another nonterminal, a child stands for one "
                + "of another nonterminal, or a number is not 0 where it has to be");
        Due.badArgument("the same", () -> x.forward(2, 2, 0, 0, 0));
        Due.badArgument("of another nonterminal", () -> x.forward(2, 3, 0, 0, 0));
        Due.badArgument("a child of another nonterminal first", () -> x.forward(0, 1, 2, 2, 0));
        Due.badArgument("a child of another nonterminal second", () -> x.forward(0, 1, 0, 1, 0));
        Due.badArgument("a child of another nonterminal third", () -> x.forward(0, 1, 0, 2, 2));
        Due.badArgument("not 0 where it has to be", () -> x.forward(2, -1, 0, 0, 7));
    }

    private static void rule() {
        DOC.section("Promise 4: rule");
        call("int rule(int production, int attribute, int other) throws IndexOutOfBoundsException, "
                + "IllegalArgumentException");
        Told t = Told.grammar(p(0, A, 1), p(0, B, 1), p(0, 1, C), p(0, A, 2), p(0, 1), p(0, 1, A, A),
                p(1, A, 1), p(1), p(2)).attributes(UP, UP);
        AttribArbor x = t.x;
        t.number(1).up(0, 1);

        DOC.says("Makes a rule by which nodes of a production can be rewritten, in place of the one before.");
        DOC.says("production: a production");
        DOC.says("attribute: an attribute");
        DOC.says("other: another production");
        t.text("a");
        Due.is("no rule", x.rewrite(0), 0);
        x.rule(0, 1, 1);
        x.rule(0, 0, 2);
        Due.is("by the rule in its place", x.rewrite(0), 0);

        DOC.says("Returns the other production of the rule before, -1 if there was none.");
        Due.is("2 before", x.rule(0, 1, 1), 2);
        Due.is("1 before", x.rule(0, 1, 2), 1);
        Due.is("none before", x.rule(1, 0, 0), -1);
        Due.is("it can be rewritten", x.rewrite(0), 2);

        DOC.says("Throws IndexOutOfBoundsException if there is no such production, of either, or attribute");
        for (int bad : new int[] {-1, 9}) {
            Due.noPlace("production " + bad, () -> x.rule(bad, 0, 1));
            Due.noPlace("other " + bad, () -> x.rule(0, 0, bad));
            Due.noPlace("attribute " + bad, () -> x.rule(0, bad, 1));
        }
        Due.noPlace("attribute 2", () -> x.rule(0, 2, 1));

        DOC.says("Throws IllegalArgumentException if other is the same, or the nonterminals, how many children and letters "
                + "there are, or the nonterminals of the children differ");
        Due.badArgument("the same", () -> x.rule(0, 0, 0));
        Due.badArgument("nonterminals differ", () -> x.rule(0, 0, 6));
        AttribArbor y = Told.grammar(p(0, A), p(0, A, 0)).attributes(UP).x;
        Due.badArgument("how many children differ", () -> y.rule(0, 0, 1));
        Due.badArgument("how many children differ, one less", () -> y.rule(1, 0, 0));
        Due.badArgument("how many letters differ", () -> x.rule(0, 0, 4));
        Due.badArgument("how many letters differ, one more", () -> x.rule(0, 0, 5));
        Due.badArgument("nonterminals of the children differ", () -> x.rule(0, 0, 3));
    }

    private static void attributeAndStep() {
        DOC.section("Promise 5: attribute");
        call("int attribute(int kind) throws IllegalArgumentException, IllegalStateException");
        DOC.says("Adds an attribute.");
        DOC.says("kind: 0 to 3");
        DOC.says("Returns its number.");
        AttribArbor x = new AttribArbor();
        for (int kind = 0; kind < 4; kind++) {
            Due.is("kind " + kind, x.attribute(kind), kind);
        }
        DOC.says("Throws IllegalArgumentException if kind is out of range");
        Due.badArgument("kind -1", () -> x.attribute(-1));
        Due.badArgument("kind 4", () -> x.attribute(4));
        DOC.says("Throws IllegalStateException if there are 6");
        Due.is("the 5th", x.attribute(0), 4);
        Due.is("the 6th", x.attribute(0), 5);
        Due.notNow("the 7th", () -> x.attribute(0));

        DOC.section("Promise 6: step");
        call("int step(int kind, int a, int b) throws IndexOutOfBoundsException, IllegalArgumentException, "
                + "IllegalStateException");
        DOC.says("Adds a step to the draft of an expression.");
        DOC.says("kind: 0 to 14");
        DOC.says("a: 0 to 999 for NUMBER; an attribute for OWN, CHILD, OF; 0 to 2 for LETTER and PUT; 0 otherwise");
        DOC.says("b: 0 to 2 for CHILD and AT; 0 otherwise");
        DOC.says("Returns how many expressions there are on the stack then.");
        DOC.says("Throws IndexOutOfBoundsException if there is no such attribute");
        DOC.says("Throws IllegalArgumentException if kind, a or b is out of range");
        int[] mostA = {999, 5, 5, 2, 2, 0, 0, 5, 0, 0, 0, 0, 0, 0, 0};
        int[] mostB = {0, 0, 2, 0, 0, 0, 2, 0, 0, 0, 0, 0, 0, 0, 0};
        int[] takes = {0, 0, 0, 0, 0, 0, 0, 1, 2, 2, 2, 2, 2, 3, 0};
        for (int kind = 0; kind < 15; kind++) {
            int k = kind;
            Due.is("the draft is empty for " + kind, x.dropSteps(), 0);
            for (int i = 1; i < 5; i++) {
                Due.is("on the stack", x.step(0, i, 0), i);
            }
            boolean attribute = kind == 1 || kind == 2 || kind == 7;
            for (int bad : new int[] {-1, mostA[kind] + 1}) {
                if (attribute) {
                    Due.noPlace(kind + ": a " + bad, () -> x.step(k, bad, 0));
                } else {
                    Due.badArgument(kind + ": a " + bad, () -> x.step(k, bad, 0));
                }
            }
            Due.badArgument(kind + ": b -1", () -> x.step(k, 0, -1));
            Due.badArgument(kind + ": b too high", () -> x.step(k, 0, mostB[k] + 1));
            Due.is(kind + ": on the stack then", x.step(kind, mostA[kind], mostB[kind]), 5 - takes[kind]);
            Due.is(kind + ": a step of the draft", x.dropSteps(), 5);
        }
        Due.badArgument("kind -1", () -> x.step(-1, 0, 0));
        Due.badArgument("kind 15", () -> x.step(15, 0, 0));

        DOC.says("Throws IllegalStateException if the stack has not so many expressions as the step takes, or the draft has 8 "
                + "steps");
        for (int kind = 7; kind < 14; kind++) {
            int k = kind;
            for (int i = 0; i < takes[kind]; i++) {
                Due.notNow(kind + " with " + i, () -> x.step(k, 0, 0));
                x.step(5, 0, 0);
            }
            Due.is(kind + " with so many", x.step(kind, 0, 0), 1);
            x.dropSteps();
        }
        for (int i = 1; i <= 8; i++) {
            Due.is("step " + i, x.step(14, 0, 0), i);
        }
        Due.notNow("step 9", () -> x.step(14, 0, 0));
    }

    private static void dropStepsAndEquation() {
        DOC.section("Promise 7: dropSteps");
        call("int dropSteps()");
        DOC.says("Empties the draft.");
        DOC.says("Returns how many steps it had.");
        Told t = Told.grammar(p(0, A, 1), p(1)).attributes(UP, DOWN, GATHERED, RING);
        AttribArbor x = t.x;
        Due.is("none", x.dropSteps(), 0);
        t.number(1).number(2).add();
        Due.is("three", x.dropSteps(), 3);
        Due.notNow("nothing is left to be added", () -> x.step(8, 0, 0));
        Due.is("none again", x.dropSteps(), 0);

        DOC.section("Promise 8: equation");
        call("int equation(int production, int attribute, int target, int aspect) throws IndexOutOfBoundsException, "
                + "IllegalArgumentException, IllegalStateException");
        DOC.says("Makes an equation of the draft, which is empty then.");
        t.number(20).number(3).add();
        Due.is("the first one", x.equation(0, 0, -1, 0), 0);
        Due.is("the draft is empty", x.dropSteps(), 0);
        t.text("a");
        Due.is("it is made of the draft", t.ask(0, 0), 23);

        DOC.says("production: a production");
        DOC.says("attribute: an attribute");
        DOC.says("target: as told above; a child that the production has");
        DOC.says("aspect: 0 to 3");
        DOC.says("Returns its number.");
        Due.is("for a child", t.number(4).down(0, 1, 0), 1);
        Due.is("a contribution", t.self().number(4).gift(1, 2), 2);
        t.number(5);
        Due.is("a RING one, in the last aspect", x.equation(1, 3, -1, 3), 3);
        Due.is("DOWN", t.ask(1, 1), 4);
        Due.is("GATHERED", t.ask(1, 2), 4);
        Due.is("RING", t.ask(1, 3), 5);

        t.number(6);
        DOC.says("Throws IndexOutOfBoundsException if there is no such production, attribute, child or aspect");
        for (int bad : new int[] {-1, 4}) {
            Due.noPlace("production " + bad, () -> x.equation(bad, 0, -1, 0));
            Due.noPlace("attribute " + bad, () -> x.equation(0, bad, -1, 0));
            Due.noPlace("aspect " + bad, () -> x.equation(0, 0, -1, bad));
        }
        Due.noPlace("production 2", () -> x.equation(2, 0, -1, 0));
        Due.noPlace("child 1", () -> x.equation(0, 1, 1, 0));
        Due.noPlace("child 0 of none", () -> x.equation(1, 1, 0, 0));

        DOC.says("Throws IllegalArgumentException if the target does not go with the kind of the attribute, or is below -2 (0 "
                + "and above is a child)");
        Due.badArgument("-2 for UP", () -> x.equation(0, 0, -2, 0));
        Due.badArgument("0 for UP", () -> x.equation(0, 0, 0, 0));
        Due.badArgument("-1 for DOWN", () -> x.equation(0, 1, -1, 0));
        Due.badArgument("-2 for DOWN", () -> x.equation(0, 1, -2, 0));
        Due.badArgument("-1 for GATHERED", () -> x.equation(0, 2, -1, 0));
        Due.badArgument("0 for GATHERED", () -> x.equation(0, 2, 0, 0));
        Due.badArgument("-2 for RING", () -> x.equation(0, 3, -2, 0));
        Due.badArgument("0 for RING", () -> x.equation(0, 3, 0, 0));
        for (int a = 0; a < 4; a++) {
            int attribute = a;
            Due.badArgument("-3 for " + a, () -> x.equation(0, attribute, -3, 0));
            Due.noPlace("1 is a child, for " + a, () -> x.equation(0, attribute, 1, 0));
        }

        DOC.says("Throws IllegalStateException if the stack has not just one expression, two for GATHERED, or there are 30 "
                + "equations");
        Due.notNow("one for GATHERED", () -> x.equation(0, 2, -2, 0));
        t.number(7);
        Due.notNow("two for UP", () -> x.equation(1, 0, -1, 0));
        t.number(8);
        Due.notNow("three for GATHERED", () -> x.equation(0, 2, -2, 0));
        Due.is("the draft is as it was", x.dropSteps(), 3);
        Due.notNow("none for UP", () -> x.equation(1, 0, -1, 0));
        for (int i = 4; i < 30; i++) {
            Due.is("number " + i, t.number(1).up(1, 0), i);
        }
        t.number(1);
        Due.notNow("number 30", () -> x.equation(1, 0, -1, 0));
    }

    private static void toggleAndConflicts() {
        DOC.section("Promise 9: toggle");
        call("boolean toggle(int aspect) throws IndexOutOfBoundsException");
        DOC.says("Switches an aspect on or off.");
        DOC.says("aspect: 0 to 3");
        DOC.says("Returns true if it is on then.");
        Told t = Told.grammar(p(0)).attributes(UP);
        AttribArbor x = t.x;
        t.number(1);
        x.equation(0, 0, -1, 3);
        x.read();
        for (int aspect = 0; aspect < 4; aspect++) {
            Due.is("off, " + aspect, x.toggle(aspect), false);
            Due.is("while it is off, " + aspect, t.ask(0, 0), aspect == 3 ? NONE : 1);
            Due.is("on, " + aspect, x.toggle(aspect), true);
            Due.is("while it is on, " + aspect, t.ask(0, 0), 1);
        }
        DOC.says("Throws IndexOutOfBoundsException if there is no such aspect");
        Due.noPlace("aspect -1", () -> x.toggle(-1) ? 1 : 0);
        Due.noPlace("aspect 4", () -> x.toggle(4) ? 1 : 0);

        DOC.section("Promise 10: conflicts");
        call("int conflicts()");
        DOC.says("Returns how many equations that count are in conflict: there is another one that counts for the same "
                + "production, attribute and target. (Contributions are not.) Returns the number.");
        t = Told.grammar(p(0, 1, 1), p(0, 1, 1), p(1)).attributes(UP, DOWN, GATHERED, UP);
        t.number(1).up(0, 0);
        t.number(1).up(1, 0);
        t.number(1).up(0, 3);
        t.number(1).down(0, 1, 0);
        t.number(1).down(0, 1, 1);
        t.self().number(1).gift(0, 2);
        t.self().number(1).gift(0, 2);
        Due.is("none", t.x.conflicts(), 0);
        t.number(2).up(0, 0);
        Due.is("two", t.x.conflicts(), 2);
        t.number(3);
        t.x.equation(0, 0, -1, 2);
        Due.is("three for the same", t.x.conflicts(), 3);
        t.number(2);
        t.x.equation(0, 1, 1, 2);
        Due.is("and two for a child", t.x.conflicts(), 5);
        t.x.toggle(2);
        Due.is("those that count", t.x.conflicts(), 2);
    }

    private static void ringIn() {
        DOC.section("Promise 11: ringIn");
        call("int ringIn()");
        DOC.says("Looks for a production in which attributes might hang on themselves, by what equations that count tell.");
        Told t = Told.grammar(p(0, A, 1), p(0, B), p(1)).attributes(UP, UP, RING);
        t.own(1).up(1, 0);
        Due.is("none", t.x.ringIn(), -1);
        t.own(0);
        t.x.equation(1, 1, -1, 2);
        Due.is("each on the other", t.x.ringIn(), 1);
        t.x.toggle(2);
        Due.is("one does not count", t.x.ringIn(), -1);

        DOC.says("In the graph of a production are the UP and DOWN attributes of the node and of its children.");
        t.own(2).up(0, 2);
        t.self().own(0).gift(1, t.x.attribute(GATHERED));
        Due.is("RING and GATHERED ones are not", t.x.ringIn(), -1);

        DOC.says("For each equation of it (forwards included; if there are two, both) for UP and DOWN, its attribute at its "
                + "target hangs on those that its expressions tell by OWN and CHILD, looked at or not.");
        t = Told.grammar(p(0, 1, 1), p(0, 1, 1), p(1)).attributes(UP, DOWN);
        t.number(0).child(1, 0).number(1).choose().down(1, 1, 0);
        Due.is("looked at or not", t.x.ringIn(), 1);
        t.x.forward(0, 1, 1, 0, 0);
        Due.is("forwards included", t.x.ringIn(), 0);
        t.number(1).down(0, 1, 1);
        Due.is("not if there is one ahead of it", t.x.ringIn(), 1);
        t.child(1, 1).down(0, 1, 1);
        Due.is("if there are two, both", t.x.ringIn(), 0);
        t = Told.grammar(p(0, 1), p(1)).attributes(UP, UP);
        t.self().of(0).up(0, 0);
        t.at(0).of(1).up(0, 1);
        Due.is("by OWN and CHILD alone, not by OF", t.x.ringIn(), -1);

        DOC.says("A DOWN attribute of a child without an equation hangs on that of the node.");
        DOC.says("An UP attribute of a child hangs on a DOWN attribute of it, if in the graph of some production of its "
                + "nonterminal the one of the node hangs on the other, directly or by others (the least such relations "
                + "for which all that holds).");
        t = Told.grammar(p(0, 1), p(1, A, 2), p(1), p(2)).attributes(UP, DOWN, UP);
        t.child(0, 0).down(0, 1, 0);
        Due.is("the child's UP one hangs on nothing", t.x.ringIn(), -1);
        t.child(0, 0).up(1, 0);
        Due.is("nothing below it yet", t.x.ringIn(), -1);
        t.own(2).up(3, 0);
        t.own(1).up(3, 2);
        Due.is("by others, over two places, one of them without an equation", t.x.ringIn(), 0);
        t.number(1).down(1, 1, 0);
        Due.is("not where there is one", t.x.ringIn(), -1);
        t.own(1).up(2, 0);
        Due.is("by some production of it", t.x.ringIn(), 0);

        DOC.says("Returns the lowest production in whose graph something hangs on itself, -1 if there is none.");
        t = Told.grammar(p(0), p(0), p(0)).attributes(UP);
        Due.is("none", t.x.ringIn(), -1);
        for (int production = 2; production >= 0; production--) {
            t.own(0).up(production, 0);
            Due.is("the lowest one", t.x.ringIn(), production);
        }
    }

    private static void insertAndDelete() {
        DOC.section("Promise 12: insert");
        call("int insert(int place, int letter) throws IndexOutOfBoundsException, IllegalArgumentException, "
                + "IllegalStateException");
        DOC.says("Puts a letter into the text.");
        DOC.says("place: 0 to the length of the text");
        DOC.says("letter: 97 to 102");
        DOC.says("Returns 100 * the nodes of the tree + those that are kept; 0 if there is no tree.");
        AttribArbor x = Told.grammar(p(0, A, 0), p(0, B)).x;
        Due.is("the first letter: \"b\"", x.insert(0, 98), 100);
        Due.is("ahead of it: \"ab\"", x.insert(0, 97), 200);
        Due.is("between: \"aab\"", x.insert(1, 97), 301);
        Due.is("at the end: \"aabf\"", x.insert(3, 102), 303);
        Due.is("the cost of \"aabf\"", x.cost(), 1);
        Due.is("no tree", Told.grammar(p(0, A, 0)).x.insert(0, 97), 0);

        DOC.says("Throws IndexOutOfBoundsException if there is no such place");
        Due.noPlace("place -1", () -> x.insert(-1, 97));
        Due.noPlace("place 5", () -> x.insert(5, 97));
        DOC.says("Throws IllegalArgumentException if letter is out of range");
        Due.badArgument("letter 96", () -> x.insert(0, 96));
        Due.badArgument("letter 103", () -> x.insert(0, 103));
        DOC.says("Throws IllegalStateException if the text has 12 letters, or there is no production");
        Due.notNow("no production", () -> new AttribArbor().insert(0, 97));
        for (int i = 4; i < 12; i++) {
            Due.is("letter number " + i, x.insert(i, 102), 303);
        }
        Due.notNow("12 letters", () -> x.insert(0, 97));

        DOC.section("Promise 13: delete");
        call("int delete(int place) throws IndexOutOfBoundsException, IllegalStateException");
        DOC.says("Takes a letter out of the text.");
        DOC.says("place: 0 for the first letter");
        DOC.says("Returns as for insert().");
        Due.is("the last one", x.delete(11), 303);
        Due.is("the cost of \"aabffffffff\"", x.cost(), 8);
        Due.is("the first one: the root's child is another one", x.delete(0), 201);
        Due.is("no letter is put in", x.cost(), 8);
        Due.is("one less", x.delete(2), 202);
        Due.is("its cost", x.cost(), 7);
        DOC.says("Throws IndexOutOfBoundsException if there is no such letter");
        Due.noPlace("letter -1", () -> x.delete(-1));
        Due.noPlace("letter 9 of 9", () -> x.delete(9));
        DOC.says("Throws IllegalStateException if there is no production");
        // Without a production no letter can be put in, so there is none to be taken out: that goes first.
        Due.noPlace("no production, and no letter", () -> new AttribArbor().delete(0));
    }

    private static void readCostNode() {
        DOC.section("Promise 14: read");
        call("int read() throws IllegalStateException");
        DOC.says("Reads the text again, as if it had become another one.");
        DOC.says("Returns as for insert().");
        AttribArbor x = Told.grammar(p(0, 1, B), p(1)).x;
        Due.is("for the first time", x.read(), 200);
        Due.is("again", x.read(), 202);
        x.production(1, B, -1, -1);
        x.insert(0, 'b');
        x.production(0, 1, -1, -1);
        Due.is("with another production, as before", x.read(), 202);
        x.production(0, B, -1, -1);
        Due.is("with a better one", x.read(), 100);
        Due.is("no tree", Told.grammar(p(1)).x.read(), 0);
        DOC.says("Throws IllegalStateException if there is no production");
        Due.notNow("no production", () -> new AttribArbor().read());

        DOC.section("Promise 15: cost");
        call("int cost()");
        DOC.says("Returns the cost of the tree. (There is none until a text is read for the first time.) Returns the cost, -1 "
                + "if there is no tree.");
        AttribArbor y = Told.grammar(p(0, A, B)).x;
        Due.is("never read", y.cost(), -1);
        y.read();
        Due.is("two letters put in", y.cost(), 2);
        y.insert(0, 'b');
        Due.is("one", y.cost(), 1);
        y.insert(0, 'a');
        Due.is("none", y.cost(), 0);
        y.insert(1, 'f');
        Due.is("one left out", y.cost(), 1);
        y.production(0, A, 9, B);
        Due.is("that of the tree still", y.cost(), 1);
        y.read();
        Due.is("that of another tree", y.cost(), 0);
        AttribArbor z = Told.grammar(p(0, A, 0)).x;
        z.read();
        Due.is("no tree: cost", z.cost(), -1);

        DOC.section("Promise 16: node");
        call("int node(int node) throws IndexOutOfBoundsException");
        DOC.says("Returns a node.");
        DOC.says("node: a node");
        DOC.says("Returns 1000 * its parent and 1, added (0 for the root) + 10 * its production as it was read + how many "
                + "children it has.");
        Told t = Told.grammar(p(1, A), p(1, B), p(0, 1, 2, 1), p(2, 1, 1)).attributes(UP);
        t.number(1).up(1, 0);
        t.x.rule(1, 0, 0);
        t.text("abba");
        int[] due = {23, 1000, 1032, 3010, 3010, 1000};
        for (int n = 0; n < due.length; n++) {
            Due.is("node " + n, t.x.node(n), due[n]);
        }
        Due.is("node 3 is rewritten", t.x.rewrite(3), 0);
        Due.is("node 3 as it was read", t.x.node(3), 3010);
        DOC.says("Throws IndexOutOfBoundsException if there is no such node");
        AttribArbor w = t.x;
        Due.noPlace("node -1", () -> w.node(-1));
        Due.noPlace("node 6", () -> w.node(6));
        Due.noPlace("node 0 without a tree", () -> z.node(0));
    }

    private static void rewrite() {
        DOC.section("Promise 17: rewrite");
        call("int rewrite(int node) throws IndexOutOfBoundsException");
        DOC.says("Rewrites a node, if there is a rule for its production, and the attribute of that (found as by value()) is "
                + "a number above 0.");
        DOC.says("node: a node");
        DOC.says("Returns its production then.");
        Told t = Told.grammar(p(0, A, 0), p(0, B, 0), p(0, C, 0), p(0)).attributes(UP, RING, DOWN);
        AttribArbor x = t.x;
        t.number(0).up(0, 0);
        t.kind().up(1, 0);
        t.self().up(1, 1);
        t.number(9).up(2, 1);
        t.text("abc");
        Due.is("no rule", x.rewrite(0), 0);
        Due.is("nothing was found", x.found(), 0);
        x.rule(0, 0, 1);
        Due.is("0 is not above 0", x.rewrite(0), 0);
        Due.is("it was found, and is kept", x.found() == 1 && x.isKept(0, 0), true);
        x.rule(1, 2, 2);
        Due.is("NONE is no number", x.rewrite(1), 1);
        x.rule(1, 1, 2);
        Due.is("nor is it where a RING one refers to a node", x.rewrite(1), 1);
        x.rule(1, 0, 2);
        Due.is("1 is above 0", x.rewrite(1), 2);
        Due.is("it stays so", x.rewrite(1), 2);
        x.rule(2, 1, 0);
        Due.is("by a RING one, and by the rule of its production now", x.rewrite(1), 0);
        Due.is("its number is as it was", x.node(1), 1011);
        DOC.says("Throws IndexOutOfBoundsException if there is no such node");
        Due.noPlace("node -1", () -> x.rewrite(-1));
        Due.noPlace("node 4", () -> x.rewrite(4));
    }

    private static void valueAndFound() {
        DOC.section("Promise 18: value");
        call("int value(int node, int attribute) throws IndexOutOfBoundsException");
        DOC.says("Returns what an attribute of a node is.");
        DOC.says("node: a node");
        DOC.says("attribute: an attribute");
        DOC.says("Returns the number, REFERENCE + a node, NONE, CYCLE or CONFLICT.");
        Told t = Told.grammar(p(0, A, 1), p(1)).attributes(UP, UP, DOWN, UP, UP, RING);
        AttribArbor x = t.x;
        t.number(999).up(0, 0);
        t.at(0).up(0, 1);
        t.own(3).up(0, 3);
        t.number(1).up(0, 4);
        t.number(1).up(0, 4);
        t.number(6).up(0, 5);
        t.text("a");
        int[] due = {999, REFERENCE + 1, NONE, CYCLE, CONFLICT, 6};
        for (int a = 0; a < 6; a++) {
            int attribute = a;
            Due.is("value of " + a, x.value(0, a), due[a]);
            Due.is("value of " + a + ", the child's", x.value(1, a), NONE);
            Due.noPlace("value of node -1", () -> x.value(-1, attribute));
            Due.noPlace("value of node 2", () -> x.value(2, attribute));
        }
        DOC.says("Throws IndexOutOfBoundsException if there is no such node or attribute");
        Due.noPlace("value of attribute -1", () -> x.value(0, -1));
        Due.noPlace("value of attribute 6", () -> x.value(0, 6));

        DOC.section("Promise 19: valueAnew");
        call("int valueAnew(int node, int attribute) throws IndexOutOfBoundsException");
        DOC.says("Returns the same, found with nothing that is kept, and keeping nothing.");
        DOC.says("node: a node");
        DOC.says("attribute: an attribute");
        DOC.says("Returns as value() tells it.");
        Due.is("ten of twelve were kept, two are RING", x.found(), 10);
        x.toggle(3);
        for (int a = 0; a < 6; a++) {
            int attribute = a;
            Due.is("anew of " + a, x.valueAnew(0, a), due[a]);
            Due.is("anew of " + a + ": it is not kept", x.isKept(0, a), false);
            Due.is("anew of " + a + ": the same", x.value(0, a), due[a]);
            Due.is("anew of " + a + ": it is kept then", x.isKept(0, a), a != 5);
            Due.is("anew of " + a + ", again", x.valueAnew(0, a), due[a]);
            Due.is("anew of " + a + ": it stays kept", x.isKept(0, a), a != 5);
            Due.noPlace("anew of node -1", () -> x.valueAnew(-1, attribute));
            Due.noPlace("anew of node 2", () -> x.valueAnew(2, attribute));
        }
        Due.is("five more by value()", x.found(), 15);
        x.delete(0);
        t.letter(0).put(0).add().up(1, 0);
        Due.is("anew behind a change, and a RING one first", x.valueAnew(0, 5), 6);
        x.production(0, B, 1, -1);
        t.put(0).up(2, 5);
        x.insert(0, 'b');
        Due.is("anew behind another change, and a RING one first", x.valueAnew(0, 5), 0);
        Due.is("anew: nothing of the old tree", x.valueAnew(0, 0), NONE);
        DOC.says("Throws IndexOutOfBoundsException if there is no such node or attribute");
        Due.noPlace("anew of attribute -1", () -> x.valueAnew(0, -1));
        Due.noPlace("anew of attribute 6", () -> x.valueAnew(0, 6));
    }

    private static void foundAndIsKept() {
        DOC.section("Promise 20: found");
        call("int found()");
        DOC.says("Returns how many findings that were kept have been made in all.");
        Told t = Told.grammar(p(0, A, 0), p(0)).attributes(UP, DOWN);
        AttribArbor x = t.x;
        t.child(0, 0).up(0, 0);
        t.number(1).up(1, 0);
        t.text("aa");
        Due.is("none yet", x.found(), 0);
        x.valueAnew(0, 0);
        x.why(0, 0, 0);
        x.isKept(0, 0);
        Due.is("none were kept", x.found(), 0);
        x.value(1, 0);
        Due.is("two", x.found(), 2);
        x.value(0, 0);
        Due.is("one more", x.found(), 3);
        x.value(2, 1);
        Due.is("down to the last node", x.found(), 6);
        x.toggle(0);
        Due.is("also those that were dropped", x.found(), 6);
        x.value(0, 0);
        Due.is("one that is made again", x.found(), 7);

        DOC.section("Promise 21: isKept");
        call("boolean isKept(int node, int attribute) throws IndexOutOfBoundsException");
        DOC.says("Returns whether what an attribute of a node is, is kept.");
        DOC.says("node: a node");
        DOC.says("attribute: an attribute");
        DOC.says("Returns true if it is.");
        for (int n = 0; n < 3; n++) {
            Due.is("UP of " + n, x.isKept(n, 0), n == 0);
            Due.is("DOWN of " + n, x.isKept(n, 1), false);
        }
        x.value(1, 1);
        Due.is("DOWN of 1", x.isKept(1, 1), true);
        Due.is("DOWN of 0, on the way", x.isKept(0, 1), true);
        Due.is("DOWN of 2", x.isKept(2, 1), false);
        DOC.says("Throws IndexOutOfBoundsException if there is no such node or attribute");
        Due.noPlace("node -1", () -> x.isKept(-1, 0) ? 1 : 0);
        Due.noPlace("node 3", () -> x.isKept(3, 0) ? 1 : 0);
        Due.noPlace("attribute -1", () -> x.isKept(0, -1) ? 1 : 0);
        Due.noPlace("attribute 2", () -> x.isKept(0, 2) ? 1 : 0);
    }

    private static void whyIs(String what, AttribArbor x, int node, int attribute, int... due) {
        for (int i = 0; i < due.length; i++) {
            Due.is("why " + what + ", " + i, x.why(node, attribute, i), due[i]);
        }
        Due.noPlace("why " + what + ", no more", () -> x.why(node, attribute, due.length));
    }

    private static void why() {
        DOC.section("Promise 22: why");
        call("int why(int node, int attribute, int read) throws IndexOutOfBoundsException");
        DOC.says("Returns an attribute of a node at which is looked, by itself, when that of a node is found anew (keeping "
                + "nothing; RING ones as they are in the end): those of the expressions of its equation; for DOWN without "
                + "one that of the parent; for GATHERED those of all contributions that are looked at; RING ones too; "
                + "each once, in the order in which they are looked at first.");
        DOC.says("node: a node");
        DOC.says("attribute: an attribute");
        DOC.says("read: 0 for the first one");
        DOC.says("Returns 10 * the node + the attribute.");
        Told t = Told.grammar(p(0, A, 1, 1), p(1, B, 1), p(1, C), p(0, 1, 1)).attributes(UP, DOWN, GATHERED, RING, UP, RING);
        AttribArbor x = t.x;
        t.child(4, 1).child(0, 0).add().child(4, 1).add().up(0, 0);
        t.number(1).up(1, 0);
        t.own(0).up(1, 4);
        t.number(2).up(2, 4);
        t.own(4).own(1).own(2).choose().down(0, 1, 0);
        t.at(0).of(3).number(3).gift(0, 2);
        t.child(1, 0).own(4).gift(1, 2);
        t.self().own(0).gift(1, 2);
        t.own(5).number(2).or().up(0, 5);
        t.own(5).number(2).same().own(3).own(0).choose().up(0, 3);
        t.own(5).own(1).max().up(0, 4);
        t.text("abcc");
        // The nodes: 0 of production 0, 1 of 1, below it 2 of 2, and 3 of 2.
        Due.is("the tree", x.read(), 404);
        whyIs("UP: each once, in this order, by itself", x, 0, 0, 34, 10);
        whyIs("UP, of a node without an equation", x, 3, 0);
        whyIs("DOWN: looked at at the parent, the first one alone", x, 1, 1, 4);
        whyIs("DOWN without one", x, 3, 1, 1);
        whyIs("DOWN without one, a level below", x, 2, 1, 11);
        whyIs("DOWN at the root", x, 0, 1);
        whyIs("GATHERED: of the contributions that are looked at, the first expression", x, 0, 2, 13, 21);
        whyIs("GATHERED: the second expression too, for the node that is asked", x, 1, 2, 13, 21, 10);
        whyIs("RING: itself, as it is in the end", x, 0, 5, 5);
        whyIs("RING: those it looks at in the end, not in the first round", x, 0, 3, 5, 3);
        whyIs("a RING one too", x, 0, 4, 5, 1);
        Due.is("nothing is kept by that", x.found() == 0 && !x.isKept(3, 4), true);
        x.value(0, 0);
        whyIs("the same, though it is kept", x, 0, 0, 34, 10);

        DOC.says("Throws IndexOutOfBoundsException if there is no such node or attribute, or not so many reads");
        for (int bad : new int[] {-1, 4}) {
            Due.noPlace("why of node " + bad, () -> x.why(bad, 0, 0));
        }
        for (int bad : new int[] {-1, 6}) {
            Due.noPlace("why of attribute " + bad, () -> x.why(0, bad, 0));
        }
        for (int bad : new int[] {-1, 2}) {
            Due.noPlace("why, read " + bad, () -> x.why(0, 0, bad));
        }
    }

    // What is not promised can't be broken; what stands ahead of it is tried to the 512th call.
    private static void notPromised() {
        DOC.section("Not promised");
        DOC.says("How the state is held inside the object is free, as are the speed of each call, the text of toString and the "
                + "behaviour of equals and hashCode. Use of one object from several threads at once is not promised to be "
                + "safe.");
        DOC.says("Nothing is promised beyond the answers and state changes described above, and nothing about an object after "
                + "its 512th call.");
        AttribArbor x = Told.grammar(p(0, A, 0), p(0)).x;
        for (int call = 3; call < 512; call++) {
            Due.is("call " + call, call % 2 == 1 ? x.insert(0, 'a') : x.delete(0), call == 3 ? 200 : call % 2 == 1 ? 200 : 100);
        }
        Due.is("call 512", x.cost(), 0);
    }

    public static void main(String[] args) {
        newObject();
        production();
        forward();
        rule();
        attributeAndStep();
        dropStepsAndEquation();
        toggleAndConflicts();
        ringIn();
        insertAndDelete();
        readCostNode();
        rewrite();
        valueAndFound();
        foundAndIsKept();
        why();
        notPromised();
        DOC.allIsQuotedUpTo("");
        Due.end("DocPromisesTest");
    }
}
