// The sentences of the document's Terms that name a boundary, one test for
// each, with answers worked out by hand.
public final class TermsBoundaryTest {
    public static void main(String[] args) {
        Check.sentence("What it is: an object is used for at most 512 calls", TermsBoundaryTest::calls512);
        Check.sentence("Terms: variables are 0 to 11", TermsBoundaryTest::variables0To11);
        Check.sentence("Terms: at most 24 assignments are held", TermsBoundaryTest::atMost24);
        Check.sentence("Terms: numbered from 0 in the order in which they were added", TermsBoundaryTest::numbered);
        Check.sentence("Terms: a class points at one class", TermsBoundaryTest::pointsAtOne);
        Check.sentence("Terms: it may be itself", TermsBoundaryTest::pointsAtItself);
        Check.sentence("Terms: or at none", TermsBoundaryTest::pointsAtNone);
        Check.sentence("Terms: the finest division", TermsBoundaryTest::finest);
        Check.sentence("Terms: the fewest classes that point", TermsBoundaryTest::fewestPoint);
        Check.sentence("Rule 0: a's class points at b's class", TermsBoundaryTest::rule0);
        Check.sentence("Rule 1: if b's class points at a class", TermsBoundaryTest::rule1);
        Check.sentence("Rule 1, its if does not hold", TermsBoundaryTest::rule1Not);
        Check.sentence("Rule 2: if b's class points at one that points at one", TermsBoundaryTest::rule2);
        Check.sentence("Rule 2, its if does not hold", TermsBoundaryTest::rule2Not);
        Check.sentence("Rule 3: if a's class and b's class point at one", TermsBoundaryTest::rule3);
        Check.sentence("Rule 3, its if does not hold", TermsBoundaryTest::rule3Not);
        Check.sentence("Rules: they speak of classes, not of variables", TermsBoundaryTest::rulesOfClasses);
        Check.sentence("Rules: as long as a rule asks for it", TermsBoundaryTest::rulesAskAgain);
        Check.sentence("Terms: would have to point at two, make them one", TermsBoundaryTest::twoTargets);
        Check.sentence("Terms: two made one point at two, make those one too", TermsBoundaryTest::twoMadeOne);
        Check.sentence("Terms: two made one, of which one or none points", TermsBoundaryTest::halfPointing);
        Check.sentence("Terms: variables out of range, assign answers -1", TermsBoundaryTest::refusedByAssign);
        Check.sentence("Terms: variables out of range, questions answer -1", TermsBoundaryTest::refusedByQuestions);
        Check.sentence("Terms: a refused call changes nothing", TermsBoundaryTest::refusedChangesNothing);
        Check.end();
    }

    private static void calls512() {
        Run x = new Run();
        x.addIdle(0, 23);
        x.due(24).assign(0, 0, 1);
        while (x.callsLeft() > 6) {
            x.due(23).drop(23);
            x.due(-1).target(0);
            x.due(24).assign(0, 0, 1);
            x.due(1).target(0);
        }
        while (x.callsLeft() > 1) {
            x.due(-1).assign(0, 0, 2);
        }
        x.due(1).steps(0);
    }

    private static void variables0To11() {
        Run x = new Run();
        for (int kind = 0; kind < 4; kind++) {
            x.due(2 * kind + 1).assign(kind, 0, 11);
            x.due(2 * kind + 2).assign(kind, 11, 0);
            x.due(-1).assign(kind, -1, 11);
            x.due(-1).assign(kind, 12, 0);
            x.due(-1).assign(kind, 0, 12);
            x.due(-1).assign(kind, 11, -1);
        }
        // By the copies each of the two points at both, so they are one.
        x.dueTogether(0, 11);
        x.dueTargets(0, -1, -1, -1, -1, -1, -1, -1, -1, -1, -1, 0);
        Run each = new Run();
        for (int v = 0; v < 12; v++) {
            each.due(v + 1).assign(0, v, 11 - v);
        }
        each.dueTargets(11, 10, 9, 8, 7, 6, 5, 4, 3, 2, 1, 0);
        each.due(12).classes();
        for (int v = 0; v < 12; v++) {
            each.due(1).same(v, v);
            each.due(1).meet(v, v);
            each.due(12).steps(v);
            each.due(1 << v).members(v);
        }
    }

    private static void atMost24() {
        for (int kind = 0; kind < 4; kind++) {
            Run x = new Run();
            x.addIdle(0, 23);
            x.due(24).assign(kind, 0, 1);
            x.due(-1).assign(kind, 0, 1);
            x.due(-1).assign(0, 2, 3);
            x.dueTargets(kind == 0 ? 1 : -1);
            // There is no number 24, so nothing more is held than 24.
            x.due(-1).drop(24);
            x.due(23).drop(23);
            x.due(-1).drop(23);
            x.dueUntouched();
        }
    }

    private static void numbered() {
        for (int place = 0; place < 24; place++) {
            Run x = fullWithOneAt(place);
            x.due(23).drop(place);
            x.due(-1).target(4);
            for (int other = 0; other < 24; other++) {
                if (other != place) {
                    Run y = fullWithOneAt(place);
                    y.due(23).drop(other);
                    y.due(5).target(4);
                }
            }
        }
        // One added after a drop is the last again, whatever was dropped.
        Run late = Run.with(0, 0, 1, 0, 2, 3);
        late.due(1).drop(0);
        late.due(2).assign(0, 4, 5);
        late.due(1).drop(0);
        late.dueTargets(-1, -1, -1, -1, 5);
    }

    // 24 assignments of which only the one with that number asks for anything.
    private static Run fullWithOneAt(int place) {
        Run x = new Run();
        x.addIdle(0, place);
        x.due(place + 1).assign(0, 4, 5);
        x.addIdle(place + 1, 23 - place);
        return x;
    }

    private static void pointsAtOne() {
        Run x = Run.with(0, 0, 1);
        x.dueTargets(1);
        x.due(1).pointing();
        // Twelve addresses in one variable still are one target.
        Run all = new Run();
        for (int v = 11; v >= 0; v--) {
            all.due(12 - v).assign(0, 5, v);
        }
        all.dueTargets(0, 0, 0, 0, 0, 0, 0, 0, 0, 0, 0, 0);
        all.due(1).pointing();
    }

    private static void pointsAtItself() {
        Run x = Run.with(0, 0, 0);
        x.dueTargets(0);
        x.dueTogether();
        Run last = Run.with(0, 11, 11);
        last.due(11).target(11);
        last.due(12).steps(11);
        last.due(1).pointing();
        // A class of two points at itself by one of them pointing at the other.
        Run two = Run.with(0, 0, 1, 0, 0, 2, 0, 2, 1);
        two.dueTogether(1, 2);
        two.dueTargets(1, 1, 1);
        two.due(12).steps(0);
    }

    private static void pointsAtNone() {
        Run x = Run.with(0, 0, 1, 0, 0, 2);
        x.dueTargets(1);
        x.due(0).steps(1);
        x.due(0).meet(1, 2);
        x.due(1).pointing();
        new Run().dueTargets();
    }

    private static void finest() {
        // Pointing at the same class does not make two classes one.
        Run x = Run.with(0, 0, 2, 0, 1, 2);
        x.dueTogether();
        x.due(12).classes();
        // Nor do a copy, a load and a store make their two variables one.
        Run y = Run.with(0, 0, 1, 0, 1, 2, 1, 3, 0, 2, 4, 0, 3, 0, 1);
        y.dueTogether();
        y.dueTargets(1, 2, -1, 1, 2);
        // What had been joined parts as soon as nothing asks for it.
        Run z = Run.with(0, 0, 1, 0, 0, 2);
        z.dueTogether(1, 2);
        z.due(1).drop(0);
        z.dueTogether();
    }

    private static void fewestPoint() {
        Run.with(1, 0, 1, 1, 1, 0).dueUntouched();
        Run.with(1, 0, 0, 2, 0, 0, 3, 0, 0).dueUntouched();
        Run.with(2, 0, 1, 3, 1, 0, 2, 1, 0, 3, 0, 1, 1, 0, 1).dueUntouched();
        Run ring = Run.with(1, 0, 1, 1, 1, 0, 0, 0, 2);
        ring.due(2).pointing();
        ring.due(2).drop(2);
        ring.dueUntouched();
    }

    private static void rule0() {
        Run.with(0, 0, 11).dueTargets(11);
        Run.with(0, 11, 0).dueTargets(-1, -1, -1, -1, -1, -1, -1, -1, -1, -1, -1, 0);
        Run.with(0, 3, 3).dueTargets(-1, -1, -1, 3);
        // It has no if: b need not point at anything, and does not come to.
        Run x = Run.with(0, 0, 1, 0, 1, 2);
        x.dueTargets(1, 2);
        x.dueTogether();
    }

    private static void rule1() {
        Run x = Run.with(1, 0, 1, 0, 1, 2);
        x.dueTargets(2, 2);
        x.dueTogether();
        Run itself = Run.with(1, 0, 1, 0, 1, 1);
        itself.dueTargets(1, 1);
        Run toA = Run.with(1, 0, 1, 0, 1, 0);
        toA.dueTargets(0, 0);
        toA.dueTogether();
        Run both = Run.with(1, 0, 1, 0, 1, 2, 0, 0, 3);
        both.dueTargets(2, 2);
        both.dueTogether(2, 3);
    }

    private static void rule1Not() {
        Run.with(1, 0, 1).dueUntouched();
        Run.with(1, 11, 11).dueUntouched();
        Run x = Run.with(1, 0, 1, 0, 0, 2);
        x.dueTargets(2);
        x.dueTogether();
        // b is pointed at, which is not that it points.
        Run pointedAt = Run.with(1, 0, 1, 0, 3, 1);
        pointedAt.dueTargets(-1, -1, -1, 1);
    }

    private static void rule2() {
        Run x = Run.with(2, 0, 1, 0, 1, 2, 0, 2, 3);
        x.dueTargets(3, 2, 3);
        x.dueTogether();
        Run itself = Run.with(2, 0, 1, 0, 1, 1);
        itself.dueTargets(1, 1);
        Run toA = Run.with(2, 0, 1, 0, 1, 2, 0, 2, 0);
        toA.dueTargets(0, 2, 0);
        toA.dueTogether();
        // b points at a, so a takes what it points at already.
        Run byA = Run.with(2, 0, 1, 0, 1, 0, 0, 0, 3);
        byA.dueTargets(3, 0);
        byA.dueTogether();
        Run both = Run.with(2, 0, 1, 0, 1, 2, 0, 2, 3, 0, 0, 4);
        both.dueTargets(3, 2, 3);
        both.dueTogether(3, 4);
    }

    private static void rule2Not() {
        Run.with(2, 0, 1).dueUntouched();
        Run.with(2, 11, 11).dueUntouched();
        // b's class points at one that points at none.
        Run half = Run.with(2, 0, 1, 0, 1, 2);
        half.dueTargets(-1, 2);
        half.dueTogether();
        Run halfToA = Run.with(2, 0, 1, 0, 1, 0);
        halfToA.dueTargets(-1, 0);
        Run pointing = Run.with(2, 0, 1, 0, 1, 2, 0, 0, 3);
        pointing.dueTargets(3, 2);
        pointing.dueTogether();
        Run ofNone = Run.with(2, 0, 1, 0, 0, 3);
        ofNone.dueTargets(3);
        ofNone.dueTogether();
    }

    private static void rule3() {
        Run x = Run.with(3, 0, 1, 0, 0, 2, 0, 1, 3);
        x.dueTargets(2, 3, 3);
        x.dueTogether();
        Run alone = Run.with(3, 0, 0, 0, 0, 1);
        alone.dueTargets(1, 1);
        alone.dueTogether();
        // a points at itself: it would have to point at b's target too.
        Run itself = Run.with(3, 0, 1, 0, 0, 0, 0, 1, 2);
        itself.dueTargets(0, 0, 0);
        itself.dueTogether(0, 2);
        Run toB = Run.with(3, 0, 1, 0, 0, 1, 0, 1, 2);
        toB.dueTargets(1, 2);
        toB.dueTogether();
        Run both = Run.with(3, 0, 1, 0, 0, 2, 0, 1, 3, 0, 2, 4);
        both.dueTargets(2, 3, 3);
        both.dueTogether(3, 4);
    }

    private static void rule3Not() {
        Run.with(3, 0, 1).dueUntouched();
        Run.with(3, 11, 11).dueUntouched();
        Run placeless = Run.with(3, 0, 1, 0, 1, 3);
        placeless.dueTargets(-1, 3);
        placeless.dueTogether();
        Run valueless = Run.with(3, 0, 1, 0, 0, 2);
        valueless.dueTargets(2);
        valueless.dueTogether();
        // That what a points at points somewhere tells b nothing.
        Run backwards = Run.with(3, 0, 1, 0, 0, 2, 0, 2, 4);
        backwards.dueTargets(2, -1, 4);
        backwards.dueTogether();
    }

    // 1 and 2 are one class each time, of which the rule's variable is the one
    // that no other assignment makes point.
    private static void rulesOfClasses() {
        Run.with(0, 0, 1, 0, 0, 2, 0, 2, 3).dueTargets(1, 3, 3);
        Run.with(0, 0, 1, 0, 0, 2, 0, 2, 3, 1, 4, 1).dueTargets(1, 3, 3, -1, 3);
        Run.with(0, 0, 1, 0, 0, 2, 0, 2, 3, 0, 3, 5, 2, 4, 1).dueTargets(1, 3, 3, 5, 5);
        Run.with(0, 0, 1, 0, 0, 2, 0, 2, 3, 3, 1, 4, 0, 4, 5).dueTargets(1, 3, 3, 5, 5);
        Run.with(0, 0, 1, 0, 0, 2, 0, 2, 3, 3, 4, 1, 0, 4, 5).dueTargets(1, 3, 3, -1, 5, 3);
    }

    // Each if comes to hold only by a rule that is asked later in the order.
    private static void rulesAskAgain() {
        Run copies = new Run();
        for (int v = 0; v < 11; v++) {
            copies.due(v + 1).assign(1, v, v + 1);
        }
        copies.dueUntouched();
        copies.due(12).assign(0, 11, 11);
        copies.dueTargets(11, 11, 11, 11, 11, 11, 11, 11, 11, 11, 11, 11);
        copies.due(12).pointing();
        copies.due(12).classes();
        // The load lets 0 point, by that the store lets 4 point, and by that
        // the copy lets 6 point.
        Run mixed = Run.with(1, 6, 4, 3, 7, 0, 2, 0, 1, 0, 7, 4, 0, 1, 2, 0, 2, 3);
        mixed.dueTargets(3, 2, 3, -1, 3, -1, 3, 4);
        mixed.dueTogether();
        // Only by joining 1 and 2 does 1 come to point, as the copy needs.
        Run joined = Run.with(1, 4, 1, 0, 2, 3, 0, 0, 1);
        joined.dueTargets(1, -1, 3);
        joined.due(4).assign(0, 0, 2);
        joined.dueTargets(1, 3, 3, -1, 3);
    }

    private static void twoTargets() {
        Run x = Run.with(0, 0, 11, 0, 0, 1);
        x.dueTogether(1, 11);
        x.dueTargets(1);
        x.due(11).classes();
        // Each kind of rule asks for a second target.
        Run.with(0, 0, 3, 0, 1, 2, 1, 0, 1).dueTogether(2, 3);
        Run.with(0, 0, 4, 0, 1, 2, 0, 2, 3, 2, 0, 1).dueTogether(3, 4);
        Run.with(0, 0, 2, 0, 2, 4, 0, 1, 3, 3, 0, 1).dueTogether(3, 4);
        // The second target is the pointing class itself.
        Run itself = Run.with(0, 0, 1, 0, 0, 0);
        itself.dueTogether(0, 1);
        itself.dueTargets(0, 0);
        // Two targets for three variables are still made one only.
        Run three = Run.with(0, 0, 5, 0, 0, 6, 0, 1, 6, 0, 1, 7);
        three.dueTogether(5, 6, 7);
        three.dueTargets(5, 5);
    }

    private static void twoMadeOne() {
        Run x = Run.with(0, 1, 3, 0, 2, 4, 0, 0, 1);
        x.dueTogether();
        x.due(4).assign(0, 0, 2);
        x.due(1).same(1, 2);
        x.due(1).same(3, 4);
        x.dueTargets(1, 3, 3);
        x.due(10).classes();
        // And so on, to the ends of the two ways.
        Run ways = Run.with(
            0, 1, 3, 0, 3, 5, 0, 5, 7, 0, 7, 9,
            0, 2, 4, 0, 4, 6, 0, 6, 8, 0, 8, 10,
            0, 0, 1);
        ways.due(12).classes();
        ways.due(10).assign(0, 0, 2);
        ways.dueTargets(1, 3, 3, 5, 5, 7, 7, 9, 9);
        ways.due(1).same(9, 10);
        ways.due(7).classes();
        // A class that points at itself, made one with one that points on:
        // the whole way falls into it.
        Run loop = Run.with(0, 1, 1, 0, 2, 3, 0, 3, 4, 0, 0, 1, 0, 0, 2);
        loop.dueTogether(1, 2, 3, 4);
        loop.dueTargets(1, 1, 1, 1, 1);
        // Both point at the same one: nothing further is made one.
        Run same = Run.with(0, 1, 3, 0, 2, 3, 0, 0, 1, 0, 0, 2);
        same.dueTogether(1, 2);
        same.dueTargets(1, 3, 3);
        // The two point at each other: their one class points at itself.
        Run eachOther = Run.with(0, 1, 2, 0, 2, 1, 0, 0, 1, 0, 0, 2);
        eachOther.dueTogether(1, 2);
        eachOther.dueTargets(1, 1, 1);
    }

    private static void halfPointing() {
        Run first = Run.with(0, 1, 3, 0, 0, 1, 0, 0, 2);
        first.dueTogether(1, 2);
        first.dueTargets(1, 3, 3);
        Run second = Run.with(0, 2, 3, 0, 0, 1, 0, 0, 2);
        second.dueTogether(1, 2);
        second.dueTargets(1, 3, 3);
        Run none = Run.with(0, 0, 1, 0, 0, 2);
        none.dueTogether(1, 2);
        none.dueTargets(1);
        // One of the two points at the other one.
        Run inward = Run.with(0, 2, 1, 0, 0, 1, 0, 0, 2);
        inward.dueTogether(1, 2);
        inward.dueTargets(1, 1, 1);
    }

    private static void refusedByAssign() {
        for (int wrong : Wrong.VARIABLES) {
            Run x = new Run();
            for (int kind = 0; kind < 4; kind++) {
                for (int v = 0; v < 12; v++) {
                    x.due(-1).assign(kind, wrong, v);
                    x.due(-1).assign(kind, v, wrong);
                }
                x.due(-1).assign(kind, wrong, wrong);
            }
            x.dueUntouched();
            x.due(-1).drop(0);
        }
    }

    private static void refusedByQuestions() {
        for (int wrong : Wrong.VARIABLES) {
            // All variables are in one class that points at itself, so that
            // no other answer than the refusal is -1 or 0.
            Run x = new Run();
            for (int v = 0; v < 12; v++) {
                x.due(v + 1).assign(0, 0, v);
            }
            for (int v = 0; v < 12; v++) {
                x.due(-1).same(wrong, v);
                x.due(-1).same(v, wrong);
                x.due(-1).meet(wrong, v);
                x.due(-1).meet(v, wrong);
            }
            x.due(-1).same(wrong, wrong);
            x.due(-1).meet(wrong, wrong);
            x.due(-1).members(wrong);
            x.due(-1).target(wrong);
            x.due(-1).steps(wrong);
            // Where nothing points, a refusal must not turn into a 0.
            Run empty = new Run();
            empty.due(-1).same(wrong, wrong);
            empty.due(-1).meet(wrong, wrong);
            empty.due(-1).meet(0, wrong);
            empty.due(-1).steps(wrong);
        }
    }

    // What is held shows only when it is taken out: so a run with refused calls
    // in between has to go on as if they had not been.
    private static void refusedChangesNothing() {
        for (int wrong : Wrong.VARIABLES) {
            Run x = new Run();
            refuseAll(x, wrong);
            x.due(1).assign(0, 0, 1);
            refuseAll(x, wrong);
            x.due(2).assign(0, 0, 2);
            refuseAll(x, wrong);
            x.due(3).assign(1, 3, 0);
            refuseAll(x, wrong);
            x.dueTargets(1, -1, -1, 1);
            x.dueTogether(1, 2);
            x.due(2).drop(0);
            refuseAll(x, wrong);
            x.dueTargets(2, -1, -1, 2);
            x.dueTogether();
            x.due(1).drop(0);
            refuseAll(x, wrong);
            x.dueUntouched();
            x.due(0).drop(0);
            refuseAll(x, wrong);
            x.due(-1).drop(0);
            x.dueUntouched();
        }
        Run full = new Run();
        full.due(1).assign(0, 0, 1);
        full.addIdle(1, 23);
        refuseAll(full, 12);
        refuseAll(full, -1);
        full.dueTargets(1);
        full.due(23).drop(0);
        full.dueUntouched();
    }

    private static void refuseAll(Run x, int wrong) {
        for (int kind = 0; kind < 4; kind++) {
            x.due(-1).assign(kind, wrong, 0);
            x.due(-1).assign(kind, 0, wrong);
        }
        x.due(-1).same(0, wrong);
        x.due(-1).same(wrong, 0);
        x.due(-1).meet(0, wrong);
        x.due(-1).meet(wrong, 0);
        x.due(-1).members(wrong);
        x.due(-1).target(wrong);
        x.due(-1).steps(wrong);
    }
}
