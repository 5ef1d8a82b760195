// Each promise in turn, with answers worked out by hand from the document:
// ordinary inputs, the edges that it names, and wrong inputs.
public final class PromisesTest {
    private static final int[] WRONG_VARIABLES = {
        -1, 12, 13, -12, 24, 1000, Integer.MIN_VALUE, Integer.MAX_VALUE,
    };
    private static final int[] WRONG_KINDS = {
        -1, 4, 5, 100, Integer.MIN_VALUE, Integer.MAX_VALUE,
    };

    public static void main(String[] args) {
        newObject();
        objectsAreApart();
        assignCounts();
        assignRefuses();
        assignRefusesWhenFull();
        ruleOfAddress();
        ruleOfCopy();
        ruleOfLoad();
        ruleOfStore();
        rulesAcrossClasses();
        chainOfJoins();
        longestWayRound();
        dropMovesBack();
        dropRefuses();
        dropUndoes();
        sameAnswers();
        membersAnswers();
        targetAnswers();
        meetAnswers();
        classesAndPointingAnswer();
        stepsAnswers();
        wrongVariablesInQuestions();
        Check.end();
    }

    // Makes an object from triples kind, a, b.
    private static AliasClasses with(int... triples) {
        AliasClasses x = new AliasClasses();
        for (int i = 0; i < triples.length; i += 3) {
            String call = "assign(" + triples[i] + ", " + triples[i + 1] + ", " + triples[i + 2] + ")";
            Check.due(call, x.assign(triples[i], triples[i + 1], triples[i + 2]), i / 3 + 1);
        }
        return x;
    }

    private static void targets(String where, AliasClasses x, int... wanted) {
        for (int v = 0; v < 12; v++) {
            int want = v < wanted.length ? wanted[v] : -1;
            Check.due(where + ": target(" + v + ")", x.target(v), want);
        }
    }

    private static void untouched(String where, AliasClasses x) {
        Check.due(where + ": classes()", x.classes(), 12);
        Check.due(where + ": pointing()", x.pointing(), 0);
        targets(where, x);
        for (int v = 0; v < 12; v++) {
            Check.due(where + ": members(" + v + ")", x.members(v), 1L << v);
            Check.due(where + ": steps(" + v + ")", x.steps(v), 0);
            for (int w = 0; w < 12; w++) {
                Check.due(where + ": same(" + v + ", " + w + ")", x.same(v, w), v == w ? 1 : 0);
                Check.due(where + ": meet(" + v + ", " + w + ")", x.meet(v, w), 0);
            }
        }
    }

    // Promise 1.
    private static void newObject() {
        AliasClasses x = new AliasClasses();
        untouched("new", x);
        Check.due("new: drop(0)", x.drop(0), -1);
        Check.due("new: first assign", x.assign(1, 0, 0), 1);
    }

    private static void objectsAreApart() {
        AliasClasses x = with(0, 0, 1);
        AliasClasses y = new AliasClasses();
        untouched("beside another", y);
        Check.due("another's drop", y.drop(0), -1);
        Check.due("own target", x.target(0), 1);
    }

    // Promise 2.
    private static void assignCounts() {
        AliasClasses x = new AliasClasses();
        for (int i = 0; i < 24; i++) {
            Check.due("assign " + i, x.assign(i % 4, i % 12, (i + 5) % 12), i + 1);
        }
        AliasClasses twice = with(0, 0, 1, 0, 0, 1);
        Check.due("the same twice: drop(0)", twice.drop(0), 1);
        Check.due("the same twice: target(0)", twice.target(0), 1);
        with(3, 11, 11, 0, 11, 0, 2, 0, 11, 1, 11, 11);
    }

    private static void assignRefuses() {
        AliasClasses x = new AliasClasses();
        for (int v : WRONG_VARIABLES) {
            for (int kind = 0; kind < 4; kind++) {
                Check.due("assign(" + kind + ", " + v + ", 0)", x.assign(kind, v, 0), -1);
                Check.due("assign(" + kind + ", 0, " + v + ")", x.assign(kind, 0, v), -1);
                Check.due("assign(" + kind + ", " + v + ", " + v + ")", x.assign(kind, v, v), -1);
            }
        }
        for (int kind : WRONG_KINDS) {
            Check.due("assign(" + kind + ", 0, 1)", x.assign(kind, 0, 1), -1);
            Check.due("assign(" + kind + ", 12, 1)", x.assign(kind, 12, 1), -1);
        }
        untouched("after refusals", x);
        Check.due("after refusals: drop(0)", x.drop(0), -1);
        Check.due("after refusals: assign", x.assign(0, 0, 1), 1);
    }

    private static void assignRefusesWhenFull() {
        AliasClasses x = new AliasClasses();
        for (int i = 0; i < 23; i++) {
            Check.due("filling " + i, x.assign(1, 2, 3), i + 1);
        }
        Check.due("the last place", x.assign(0, 3, 4), 24);
        Check.due("full", x.assign(0, 5, 6), -1);
        Check.due("full: target(5)", x.target(5), -1);
        Check.due("full: target(2)", x.target(2), 4);
        Check.due("full: wrong kind", x.assign(4, 5, 6), -1);
        Check.due("full: drop(24)", x.drop(24), -1);
        Check.due("full: drop(23)", x.drop(23), 23);
        Check.due("room again: target(2)", x.target(2), -1);
        Check.due("room again", x.assign(0, 5, 6), 24);
        Check.due("room again: target(5)", x.target(5), 6);
        Check.due("full again", x.assign(0, 7, 8), -1);
        for (int left = 23; left >= 0; left--) {
            Check.due("emptying", x.drop(0), left);
        }
        untouched("emptied", x);
    }

    // The rules, each alone and where its condition does not hold.
    private static void ruleOfAddress() {
        targets("address", with(0, 0, 1), 1);
        targets("address of itself", with(0, 0, 0), 0);
        AliasClasses x = with(0, 0, 5, 0, 0, 3);
        targets("two addresses", x, 3);
        Check.due("two addresses: members(5)", x.members(5), 40);
        Check.due("two addresses: classes()", x.classes(), 11);
        AliasClasses own = with(0, 0, 0, 0, 0, 1);
        targets("its own and another's address", own, 0, 0);
        Check.due("its own and another's: members(1)", own.members(1), 3);
    }

    private static void ruleOfCopy() {
        untouched("copy of nothing", with(1, 0, 1));
        untouched("copies in a ring", with(1, 0, 1, 1, 1, 2, 1, 2, 0));
        targets("copy", with(1, 0, 1, 0, 1, 2), 2, 2);
        targets("copy goes one way", with(1, 0, 1, 0, 0, 2), 2);
        AliasClasses x = with(1, 0, 1, 0, 0, 2, 0, 1, 3);
        targets("copy over another", x, 2, 2);
        Check.due("copy over another: same(2, 3)", x.same(2, 3), 1);
        Check.due("copy over another: same(0, 1)", x.same(0, 1), 0);
    }

    private static void ruleOfLoad() {
        untouched("load of nothing", with(2, 0, 1));
        targets("load half way", with(2, 0, 1, 0, 1, 2), -1, 2);
        targets("load", with(2, 0, 1, 0, 1, 2, 0, 2, 3), 3, 2, 3);
        targets("load goes one way", with(2, 0, 1, 0, 0, 3, 0, 1, 2), 3, 2);
        AliasClasses x = with(2, 0, 1, 0, 1, 2, 0, 2, 3, 0, 0, 4);
        targets("load over another", x, 3, 2, 3);
        Check.due("load over another: members(3)", x.members(3), 24);
        targets("load of itself", with(2, 0, 0, 0, 0, 1, 0, 1, 2), 1, 1, 1);
    }

    private static void ruleOfStore() {
        untouched("store in nothing", with(3, 0, 1));
        targets("store with no place", with(3, 0, 1, 0, 1, 2), -1, 2);
        targets("store of nothing", with(3, 0, 1, 0, 0, 2), 2);
        targets("store", with(3, 0, 1, 0, 0, 2, 0, 1, 3), 2, 3, 3);
        AliasClasses x = with(3, 0, 1, 0, 0, 2, 0, 1, 3, 0, 2, 4);
        targets("store over another", x, 2, 3, 3);
        Check.due("store over another: members(4)", x.members(4), 24);
        targets("store goes one way", with(3, 0, 1, 0, 0, 2, 0, 2, 4), 2, -1, 4);
        targets("store of itself", with(3, 0, 0, 0, 0, 1), 1, 1);
    }

    // A rule speaks of classes: what one member does counts for all of them.
    private static void rulesAcrossClasses() {
        AliasClasses address = with(0, 0, 1, 0, 0, 2, 0, 1, 3);
        targets("address in a class", address, 1, 3, 3);
        AliasClasses copy = with(0, 0, 1, 0, 0, 2, 0, 1, 3, 1, 4, 2);
        targets("copy from a class", copy, 1, 3, 3, -1, 3);
        AliasClasses into = with(0, 0, 1, 0, 0, 2, 0, 4, 3, 1, 2, 4);
        targets("copy into a class", into, 1, 3, 3, -1, 3);
        AliasClasses load = with(0, 0, 1, 0, 0, 2, 0, 1, 3, 2, 4, 0);
        targets("load through a class", load, 1, 3, 3, -1, 3);
        AliasClasses store = with(0, 0, 2, 0, 0, 1, 0, 5, 1, 3, 5, 6, 0, 6, 7);
        targets("store into a class", store, 1, 7, 7, -1, -1, 1, 7);
    }

    // 0 and 6 are made one; they begin two ways, and so each pair on the ways
    // is made one too.
    private static void chainOfJoins() {
        AliasClasses x = with(
            0, 0, 1, 0, 1, 2, 0, 2, 3, 0, 3, 4, 0, 4, 5,
            0, 6, 7, 0, 7, 8, 0, 8, 9, 0, 9, 10);
        Check.due("two ways: classes()", x.classes(), 12);
        Check.due("two ways: pointing()", x.pointing(), 9);
        x.assign(0, 11, 6);
        x.assign(0, 11, 0);
        Check.due("joined ways: classes()", x.classes(), 7);
        Check.due("joined ways: pointing()", x.pointing(), 6);
        for (int v = 0; v < 5; v++) {
            Check.due("joined ways: members(" + v + ")", x.members(v), 65L << v);
            Check.due("joined ways: target(" + (v + 6) + ")", x.target(v + 6), v + 1);
        }
        Check.due("joined ways: members(5)", x.members(5), 32);
        Check.due("joined ways: steps(11)", x.steps(11), 6);
        Check.due("joined ways: steps(10)", x.steps(10), 1);
        Check.due("joined ways: drop(10)", x.drop(10), 10);
        Check.due("parted ways: classes()", x.classes(), 12);
        AliasClasses ring = with(0, 0, 1, 0, 1, 2, 0, 2, 0, 0, 2, 1);
        Check.due("a ring with a short cut: members(0)", ring.members(0), 7);
        targets("a ring with a short cut", ring, 0, 0, 0);
    }

    // The copies stand so that, taken in order, each time through them passes
    // on what variable 11 points at to one variable more only.
    private static void longestWayRound() {
        AliasClasses x = new AliasClasses();
        for (int v = 0; v < 11; v++) {
            x.assign(1, v, v + 1);
        }
        untouched("copies alone", x);
        x.assign(0, 11, 5);
        targets("copies in a row", x, 5, 5, 5, 5, 5, 5, 5, 5, 5, 5, 5, 5);
        Check.due("copies in a row: classes()", x.classes(), 12);
        Check.due("copies in a row: pointing()", x.pointing(), 12);
        x.assign(0, 0, 4);
        Check.due("another at the end: members(4)", x.members(4), 48);
        x.drop(5);
        targets("a gap in the row", x, 4, -1, -1, -1, -1, -1, 5, 5, 5, 5, 5, 5);
    }

    // Promise 3.
    private static void dropMovesBack() {
        AliasClasses x = with(0, 0, 6, 0, 1, 7, 0, 2, 8, 0, 3, 9);
        Check.due("drop(1)", x.drop(1), 3);
        targets("without the second", x, 6, -1, 8, 9);
        Check.due("drop(1) again", x.drop(1), 2);
        targets("without the third", x, 6, -1, -1, 9);
        Check.due("drop(2)", x.drop(2), -1);
        Check.due("assign behind", x.assign(0, 4, 10), 3);
        targets("one behind", x, 6, -1, -1, 9, 10);
        Check.due("drop(0)", x.drop(0), 2);
        targets("without the first", x, -1, -1, -1, 9, 10);
        Check.due("drop(1), the last", x.drop(1), 1);
        targets("without the last", x, -1, -1, -1, 9);
        Check.due("drop(0), the only one", x.drop(0), 0);
        untouched("all dropped", x);
        AliasClasses kinds = with(1, 0, 1, 0, 1, 2, 2, 3, 0, 3, 1, 4, 0, 4, 5);
        targets("every kind", kinds, 2, 2, 5, 5, 5);
        Check.due("kinds move too: drop(0)", kinds.drop(0), 4);
        targets("every kind but copy", kinds, -1, 2, 5, -1, 5);
        Check.due("kinds move too: drop(2)", kinds.drop(2), 3);
        targets("every kind but store", kinds, -1, 2, -1, -1, 5);
    }

    private static void dropRefuses() {
        AliasClasses x = with(0, 0, 1, 0, 2, 3);
        int[] wrong = {-1, 2, 3, 23, 24, 25, 1000, Integer.MIN_VALUE, Integer.MAX_VALUE};
        for (int number : wrong) {
            Check.due("drop(" + number + ")", x.drop(number), -1);
            targets("after drop(" + number + ")", x, 1, -1, 3);
        }
        Check.due("nothing was taken out", x.assign(1, 4, 4), 3);
    }

    private static void dropUndoes() {
        AliasClasses x = with(0, 0, 1, 0, 0, 2, 0, 3, 1, 0, 3, 2);
        Check.due("joined twice: same(1, 2)", x.same(1, 2), 1);
        Check.due("drop(1)", x.drop(1), 3);
        Check.due("still joined: same(1, 2)", x.same(1, 2), 1);
        Check.due("drop(1)", x.drop(1), 2);
        Check.due("apart: same(1, 2)", x.same(1, 2), 0);
        targets("apart", x, 1, -1, -1, 2);
        // Copies that pass something round must not keep it up by themselves.
        AliasClasses ring = with(1, 0, 1, 1, 1, 0, 0, 1, 5);
        targets("ring", ring, 5, 5);
        Check.due("drop(2)", ring.drop(2), 2);
        untouched("ring without a source", ring);
    }

    // Promise 4.
    private static void sameAnswers() {
        AliasClasses x = with(0, 0, 1, 0, 0, 2, 0, 3, 2, 0, 3, 11);
        int joined = 1 << 1 | 1 << 2 | 1 << 11;
        for (int v = 0; v < 12; v++) {
            for (int w = 0; w < 12; w++) {
                boolean both = (joined >> v & 1) == 1 && (joined >> w & 1) == 1;
                Check.due("same(" + v + ", " + w + ")", x.same(v, w), v == w || both ? 1 : 0);
            }
        }
        Check.due("pointing at the same is not the same", with(0, 0, 1, 0, 2, 1).same(0, 2), 0);
    }

    // Promise 5.
    private static void membersAnswers() {
        AliasClasses x = with(0, 4, 11, 0, 4, 0, 0, 5, 6, 0, 5, 7);
        int[] wanted = {2049, 2, 4, 8, 16, 32, 192, 192, 256, 512, 1024, 2049};
        for (int v = 0; v < 12; v++) {
            Check.due("members(" + v + ")", x.members(v), wanted[v]);
        }
        AliasClasses all = new AliasClasses();
        for (int v = 0; v < 12; v++) {
            all.assign(0, 3, v);
        }
        for (int v = 0; v < 12; v++) {
            Check.due("all: members(" + v + ")", all.members(v), 4095);
        }
        Check.due("all: classes()", all.classes(), 1);
        Check.due("all: target(3)", all.target(3), 0);
        Check.due("all: steps(3)", all.steps(3), 12);
    }

    // Promise 6.
    private static void targetAnswers() {
        targets("the least, named last", with(0, 0, 9, 0, 0, 8, 0, 0, 7), 7);
        targets("the least, named first", with(0, 0, 7, 0, 0, 8, 0, 0, 9), 7);
        targets("the least is itself", with(0, 4, 9, 0, 4, 4), -1, -1, -1, -1, 4, -1, -1, -1, -1, 4);
        targets("least by way of another", with(0, 5, 9, 0, 6, 9, 0, 6, 2), -1, -1, -1, -1, -1, 2, 2);
        targets("variable 0 as target", with(0, 11, 0), -1, -1, -1, -1, -1, -1, -1, -1, -1, -1, -1, 0);
    }

    // Promise 7.
    private static void meetAnswers() {
        AliasClasses x = with(0, 0, 1, 0, 2, 1, 0, 3, 4);
        Check.due("meet(0, 2)", x.meet(0, 2), 1);
        Check.due("meet(2, 0)", x.meet(2, 0), 1);
        Check.due("meet(0, 0)", x.meet(0, 0), 1);
        Check.due("meet(0, 3)", x.meet(0, 3), 0);
        Check.due("meet(0, 5)", x.meet(0, 5), 0);
        Check.due("meet(5, 0)", x.meet(5, 0), 0);
        Check.due("both at none: meet(5, 6)", x.meet(5, 6), 0);
        Check.due("itself at none: meet(5, 5)", x.meet(5, 5), 0);
        Check.due("the target itself: meet(0, 1)", x.meet(0, 1), 0);
        AliasClasses joined = with(0, 0, 1, 0, 3, 4, 0, 5, 1, 0, 5, 4);
        Check.due("joined targets: meet(0, 3)", joined.meet(0, 3), 1);
        Check.due("one class at none: meet(1, 4)", joined.meet(1, 4), 0);
        Check.due("at variable 0: meet(1, 2)", with(0, 1, 0, 0, 2, 0).meet(1, 2), 1);
    }

    // Promises 8 and 9.
    private static void classesAndPointingAnswer() {
        AliasClasses x = with(0, 0, 1);
        Check.due("one: classes()", x.classes(), 12);
        Check.due("one: pointing()", x.pointing(), 1);
        x.assign(0, 2, 3);
        Check.due("two: pointing()", x.pointing(), 2);
        x.assign(0, 4, 0);
        x.assign(0, 4, 2);
        Check.due("joined: classes()", x.classes(), 10);
        Check.due("joined: pointing()", x.pointing(), 2);
        AliasClasses at0 = with(0, 0, 0);
        Check.due("at itself: classes()", at0.classes(), 12);
        Check.due("at itself: pointing()", at0.pointing(), 1);
        // A class counts although not its least variable was told to point.
        AliasClasses late = with(0, 0, 1, 0, 0, 2, 0, 2, 3);
        Check.due("by a later member: classes()", late.classes(), 11);
        Check.due("by a later member: pointing()", late.pointing(), 2);
    }

    // Promise 10.
    private static void stepsAnswers() {
        AliasClasses x = new AliasClasses();
        for (int v = 0; v < 11; v++) {
            x.assign(0, v, v + 1);
        }
        for (int v = 0; v < 12; v++) {
            Check.due("the longest way: steps(" + v + ")", x.steps(v), 11 - v);
        }
        x.assign(0, 11, 0);
        for (int v = 0; v < 12; v++) {
            Check.due("the longest ring: steps(" + v + ")", x.steps(v), 12);
        }
        Check.due("the longest ring: classes()", x.classes(), 12);
        AliasClasses into = with(0, 0, 1, 0, 1, 2, 0, 2, 1, 0, 3, 4);
        Check.due("into a ring: steps(0)", into.steps(0), 12);
        Check.due("beside a ring: steps(3)", into.steps(3), 1);
        Check.due("beside a ring: steps(4)", into.steps(4), 0);
        Check.due("at itself: steps(11)", with(0, 11, 11).steps(11), 12);
    }

    // The refusals of promises 4 to 7 and 10.
    private static void wrongVariablesInQuestions() {
        AliasClasses x = with(0, 0, 1, 0, 1, 0, 0, 11, 1);
        for (int v : WRONG_VARIABLES) {
            Check.due("same(" + v + ", 0)", x.same(v, 0), -1);
            Check.due("same(0, " + v + ")", x.same(0, v), -1);
            Check.due("same(" + v + ", " + v + ")", x.same(v, v), -1);
            Check.due("meet(" + v + ", 0)", x.meet(v, 0), -1);
            Check.due("meet(0, " + v + ")", x.meet(0, v), -1);
            Check.due("meet(" + v + ", " + v + ")", x.meet(v, v), -1);
            Check.due("members(" + v + ")", x.members(v), -1);
            Check.due("target(" + v + ")", x.target(v), -1);
            Check.due("steps(" + v + ")", x.steps(v), -1);
        }
        targets("after wrong questions", x, 1, 0, -1, -1, -1, -1, -1, -1, -1, -1, -1, 1);
    }
}
