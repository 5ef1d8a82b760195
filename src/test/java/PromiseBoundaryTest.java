// The sentences of promises 1 to 10 that name a boundary, one test for each,
// with answers worked out by hand.
public final class PromiseBoundaryTest {
    public static void main(String[] args) {
        Check.sentence("Promise 1: no assignment", PromiseBoundaryTest::promise1NoAssignment);
        Check.sentence("Promise 1: each object by itself", PromiseBoundaryTest::promise1EachByItself);
        Check.sentence("Promise 2: adds an assignment", PromiseBoundaryTest::promise2Adds);
        Check.sentence("Promise 2: answers the number of assignments then", PromiseBoundaryTest::promise2Answers);
        Check.sentence("Promise 2: -1 if kind is not from 0 to 3", PromiseBoundaryTest::promise2WrongKind);
        Check.sentence("Promise 2: -1 if there are 24", PromiseBoundaryTest::promise2Full);
        Check.sentence("Promise 3: takes the assignment with the number out", PromiseBoundaryTest::promise3TakesOut);
        Check.sentence("Promise 3: the ones behind move one place back", PromiseBoundaryTest::promise3MovesBack);
        Check.sentence("Promise 3: answers the number of assignments then", PromiseBoundaryTest::promise3Answers);
        Check.sentence("Promise 3: -1 if there is none", PromiseBoundaryTest::promise3None);
        Check.sentence("Promise 4: 1 if in the same class, else 0", PromiseBoundaryTest::promise4Same);
        Check.sentence("Promise 4: -1", PromiseBoundaryTest::promise4Refuses);
        Check.sentence("Promise 5: the sum of 2^v over the class", PromiseBoundaryTest::promise5Sum);
        Check.sentence("Promise 5: -1", PromiseBoundaryTest::promise5Refuses);
        Check.sentence("Promise 6: the least variable of the class pointed at", PromiseBoundaryTest::promise6Least);
        Check.sentence("Promise 6: -1 also if there is none", PromiseBoundaryTest::promise6None);
        Check.sentence("Promise 6: -1", PromiseBoundaryTest::promise6Refuses);
        Check.sentence("Promise 7: 1 if both point at the same class", PromiseBoundaryTest::promise7Meet);
        Check.sentence("Promise 7: else 0", PromiseBoundaryTest::promise7Else);
        Check.sentence("Promise 7: -1", PromiseBoundaryTest::promise7Refuses);
        Check.sentence("Promise 8: 12 classes without an assignment", PromiseBoundaryTest::promise8Most);
        Check.sentence("Promise 8: from 12 classes down to 1", PromiseBoundaryTest::promise8Least);
        Check.sentence("Promise 9: none points without an assignment", PromiseBoundaryTest::promise9None);
        Check.sentence("Promise 9: one points if all are in one class", PromiseBoundaryTest::promise9OneClass);
        Check.sentence("Promise 9: from 0 up to 12 classes point", PromiseBoundaryTest::promise9Most);
        Check.sentence("Promise 10: before a class that points at none", PromiseBoundaryTest::promise10Ends);
        Check.sentence("Promise 10: 12 if that never happens", PromiseBoundaryTest::promise10Never);
        Check.sentence("Promise 10: -1", PromiseBoundaryTest::promise10Refuses);
        Check.end();
    }

    // All variables in one class, which then points at itself: 0 points at
    // each, itself among them.
    private static Run allInOne() {
        Run x = new Run();
        for (int v = 0; v < 12; v++) {
            x.due(v + 1).assign(0, 0, v);
        }
        return x;
    }

    // 0 points at 1, 1 at 2, and so on to 11, which points at none.
    private static Run longestWay() {
        Run x = new Run();
        for (int v = 0; v < 11; v++) {
            x.due(v + 1).assign(0, v, v + 1);
        }
        return x;
    }

    private static void promise1NoAssignment() {
        Run x = new Run();
        x.dueUntouched();
        for (int v = 0; v < 12; v++) {
            x.due(0).steps(v);
            x.due(0).meet(v, 11 - v);
            x.due(0).same(v, 11 - v);
            x.due(1).same(v, v);
        }
        for (int number = -1; number <= 24; number++) {
            x.due(-1).drop(number);
        }
        x.due(1).assign(1, 0, 0);
    }

    private static void promise1EachByItself() {
        Run first = Run.with(0, 0, 1, 0, 0, 2);
        Run second = new Run();
        second.dueUntouched();
        second.due(-1).drop(0);
        second.due(1).assign(0, 5, 6);
        first.dueTargets(1);
        first.dueTogether(1, 2);
        first.due(1).drop(1);
        second.dueTargets(-1, -1, -1, -1, -1, 6);
    }

    private static void promise2Adds() {
        // The same one again is one more, and stays when the other one goes.
        Run twice = Run.with(0, 0, 1, 0, 0, 1);
        twice.due(1).drop(0);
        twice.dueTargets(1);
        twice.due(0).drop(0);
        twice.dueUntouched();
        // One that asks for nothing yet is held all the same.
        Run waiting = Run.with(3, 0, 1, 2, 2, 0, 1, 3, 1);
        waiting.dueUntouched();
        waiting.due(4).assign(0, 1, 4);
        waiting.due(5).assign(0, 0, 5);
        waiting.dueTargets(5, 4, 4, 4, -1, 4);
    }

    private static void promise2Answers() {
        for (int kind = 0; kind < 4; kind++) {
            Run x = new Run();
            for (int count = 1; count <= 24; count++) {
                x.due(count).assign(kind, count % 12, 11 - count % 12);
            }
            x.due(23).drop(11);
            x.due(22).drop(0);
            x.due(23).assign(kind, 0, 11);
            x.due(24).assign(kind, 11, 0);
        }
    }

    private static void promise2WrongKind() {
        for (int wrong : Wrong.KINDS) {
            Run x = Run.with(0, 0, 1);
            x.due(-1).assign(wrong, 2, 3);
            x.due(-1).assign(wrong, 0, 2);
            x.due(-1).assign(wrong, 0, 11);
            x.due(-1).assign(wrong, 12, -1);
            x.dueTargets(1);
            x.dueTogether();
            // Nothing of a refused one was held.
            x.due(-1).drop(1);
            x.due(2).assign(1, 4, 0);
            x.dueTargets(1, -1, -1, -1, 1);
            x.due(1).drop(1);
            x.due(0).drop(0);
            x.dueUntouched();
        }
        for (int kind = 0; kind <= 3; kind++) {
            new Run().due(1).assign(kind, 0, 1);
        }
    }

    private static void promise2Full() {
        Run x = new Run();
        x.addIdle(0, 22);
        x.due(23).assign(1, 2, 0);
        x.due(24).assign(0, 0, 1);
        for (int kind = 0; kind < 4; kind++) {
            x.due(-1).assign(kind, 0, 3);
            x.due(-1).assign(kind, 0, 12);
        }
        x.due(-1).assign(-1, 0, 3);
        x.due(-1).assign(4, 0, 3);
        x.dueTargets(1, -1, 1);
        x.dueTogether();
        // One place free: one more is taken, and then none again.
        x.due(23).drop(0);
        x.due(24).assign(0, 0, 3);
        x.due(-1).assign(0, 0, 4);
        x.dueTargets(1, -1, 1);
        x.dueTogether(1, 3);
        // The one before the last is what was the last of the full 24.
        x.due(23).drop(22);
        x.dueTargets(3, -1, 3);
        x.dueTogether();
        for (int count = 22; count >= 0; count--) {
            x.due(count).drop(count);
        }
        x.dueUntouched();
    }

    private static void promise3TakesOut() {
        Run first = Run.with(0, 0, 6, 0, 1, 7, 0, 2, 8);
        first.due(2).drop(0);
        first.dueTargets(-1, 7, 8);
        Run middle = Run.with(0, 0, 6, 0, 1, 7, 0, 2, 8);
        middle.due(2).drop(1);
        middle.dueTargets(6, -1, 8);
        Run last = Run.with(0, 0, 6, 0, 1, 7, 0, 2, 8);
        last.due(2).drop(2);
        last.dueTargets(6, 7);
        Run only = Run.with(0, 11, 0);
        only.due(0).drop(0);
        only.dueUntouched();
        // Everything that had followed from it goes too.
        Run source = Run.with(0, 0, 1, 0, 0, 2, 0, 1, 3, 0, 2, 4, 1, 5, 0, 2, 6, 5, 3, 0, 6);
        source.dueTargets(1, 3, 3, -1, -1, 1, 3);
        source.due(6).drop(1);
        source.dueTargets(1, 3, 4, -1, -1, 1, 3);
        source.dueTogether();
        source.due(5).drop(0);
        source.dueTargets(-1, 3, 4);
    }

    private static void promise3MovesBack() {
        // Always number 1: those behind come to bear it one after the other.
        Run x = Run.with(0, 0, 6, 0, 1, 7, 0, 2, 8, 0, 3, 9);
        x.due(3).drop(1);
        x.dueTargets(6, -1, 8, 9);
        x.due(2).drop(1);
        x.dueTargets(6, -1, -1, 9);
        x.due(1).drop(1);
        x.dueTargets(6);
        x.due(-1).drop(1);
        // The kind and both variables move with it.
        Run all = Run.with(1, 0, 0, 0, 1, 2, 1, 3, 1, 3, 1, 4, 0, 4, 5, 2, 6, 3);
        all.dueTargets(-1, 2, 5, 2, 5, -1, 5);
        all.due(5).drop(0);
        all.dueTargets(-1, 2, 5, 2, 5, -1, 5);
        all.due(4).drop(2);
        all.dueTargets(-1, 2, -1, 2, 5);
        all.due(3).drop(2);
        all.dueTargets(-1, 2, -1, 2);
        all.due(4).assign(0, 2, 7);
        all.dueTargets(-1, 2, 7, 2, -1, -1, 7);
        // The last one of 24 moves back through every place to the first.
        Run far = new Run();
        far.addIdle(0, 23);
        far.due(24).assign(0, 8, 9);
        for (int count = 23; count >= 1; count--) {
            far.due(count).drop(0);
            far.due(9).target(8);
            far.due(-1).drop(count);
        }
        far.due(0).drop(0);
        far.dueUntouched();
    }

    private static void promise3Answers() {
        for (int from = 0; from < 3; from++) {
            Run x = new Run();
            x.addIdle(0, 24);
            for (int count = 23; count >= 0; count--) {
                x.due(count).drop(from == 0 ? 0 : from == 1 ? count : count / 2);
            }
            x.due(-1).drop(0);
            x.due(1).assign(0, 0, 0);
        }
    }

    private static void promise3None() {
        int[] never = {
            -1, 24, -2, 25, 32, -24, 48, 256, 65536, 1 << 30,
            Integer.MIN_VALUE, Integer.MIN_VALUE + 1, Integer.MAX_VALUE,
        };
        for (int count = 0; count <= 24; count++) {
            Run x = new Run();
            for (int i = 0; i < count; i++) {
                x.due(i + 1).assign(0, i % 12, i % 12);
            }
            for (int number = count; number <= 25; number++) {
                x.due(-1).drop(number);
            }
            for (int number : never) {
                x.due(-1).drop(number);
            }
            int points = count < 12 ? count : 12;
            x.due(points).pointing();
            for (int v = 0; v < 12; v++) {
                x.due(v < points ? v : -1).target(v);
            }
            // The number just below is there.
            if (count > 0) {
                x.due(count - 1).drop(count - 1);
            }
        }
    }

    private static void promise4Same() {
        Run x = Run.with(0, 5, 0, 0, 5, 11);
        for (int v = 0; v < 12; v++) {
            x.due(1).same(v, v);
            x.due(v == 0 || v == 11 ? 1 : 0).same(0, v);
            x.due(v == 0 || v == 11 ? 1 : 0).same(v, 11);
        }
        x.due(1).same(0, 11);
        x.due(1).same(11, 0);
        x.due(0).same(5, 0);
        x.due(0).same(1, 2);
        // Pointing at the same class, or at each other, is not being in one.
        Run meeting = Run.with(0, 0, 5, 0, 11, 5, 0, 5, 0);
        meeting.due(0).same(0, 11);
        meeting.due(0).same(0, 5);
        Run all = allInOne();
        for (int v = 0; v < 12; v++) {
            for (int w = 0; w < 12; w++) {
                all.due(1).same(v, w);
            }
        }
        Run none = new Run();
        for (int v = 0; v < 12; v++) {
            for (int w = 0; w < 12; w++) {
                none.due(v == w ? 1 : 0).same(v, w);
            }
        }
    }

    private static void promise4Refuses() {
        Run x = allInOne();
        for (int wrong : Wrong.VARIABLES) {
            x.due(-1).same(wrong, 0);
            x.due(-1).same(wrong, 11);
            x.due(-1).same(0, wrong);
            x.due(-1).same(11, wrong);
            x.due(-1).same(wrong, wrong);
        }
        x.due(-1).same(-1, 12);
        x.due(-1).same(12, -1);
        x.due(1).same(0, 11);
    }

    private static void promise5Sum() {
        Run none = new Run();
        none.due(1).members(0);
        none.due(2048).members(11);
        none.dueTogether();
        Run ends = Run.with(0, 5, 0, 0, 5, 11);
        ends.due(2049).members(0);
        ends.due(2049).members(11);
        ends.due(32).members(5);
        Run all = allInOne();
        for (int v = 0; v < 12; v++) {
            all.due(4095).members(v);
        }
        // All but one: the one is the variable that points.
        Run most = new Run();
        for (int v = 0; v < 11; v++) {
            most.due(v + 1).assign(0, 11, v);
        }
        for (int v = 0; v < 11; v++) {
            most.due(2047).members(v);
        }
        most.due(2048).members(11);
        Run two = Run.with(0, 0, 1, 0, 0, 10, 0, 2, 3, 0, 2, 4);
        int[] wanted = {1, 1026, 4, 24, 24, 32, 64, 128, 256, 512, 1026, 2048};
        for (int v = 0; v < 12; v++) {
            two.due(wanted[v]).members(v);
        }
    }

    private static void promise5Refuses() {
        Run all = allInOne();
        Run none = new Run();
        for (int wrong : Wrong.VARIABLES) {
            all.due(-1).members(wrong);
            none.due(-1).members(wrong);
        }
        all.due(4095).members(0);
        none.due(1).members(0);
    }

    private static void promise6Least() {
        Run.with(0, 0, 0).due(0).target(0);
        Run.with(0, 11, 0).due(0).target(11);
        Run.with(0, 0, 11).due(11).target(0);
        Run.with(0, 11, 11).due(11).target(11);
        // The least one, whether it came first, last or in between.
        int[][] orders = {{7, 8, 9}, {7, 9, 8}, {8, 7, 9}, {8, 9, 7}, {9, 7, 8}, {9, 8, 7}};
        for (int[] order : orders) {
            Run x = Run.with(0, 3, order[0], 0, 3, order[1], 0, 3, order[2]);
            x.dueTargets(-1, -1, -1, 7);
            x.dueTogether(7, 8, 9);
        }
        // 6 points at 9 alone; the least of its class came by way of 5.
        Run other = Run.with(0, 6, 9, 0, 5, 9, 0, 5, 0);
        other.dueTargets(-1, -1, -1, -1, -1, 0, 0);
        other.due(2).drop(2);
        other.dueTargets(-1, -1, -1, -1, -1, 9, 9);
        allInOne().dueTargets(0, 0, 0, 0, 0, 0, 0, 0, 0, 0, 0, 0);
    }

    private static void promise6None() {
        new Run().dueTargets();
        Run x = Run.with(0, 0, 1, 1, 2, 3, 2, 4, 0, 3, 0, 5);
        x.dueTargets(1);
        Run end = longestWay();
        end.due(11).target(10);
        end.due(-1).target(11);
        Run gone = Run.with(0, 11, 0);
        gone.due(0).target(11);
        gone.due(0).drop(0);
        gone.due(-1).target(11);
    }

    private static void promise6Refuses() {
        Run x = allInOne();
        for (int wrong : Wrong.VARIABLES) {
            x.due(-1).target(wrong);
        }
        x.due(0).target(0);
        x.due(0).target(11);
    }

    private static void promise7Meet() {
        Run x = Run.with(0, 0, 5, 0, 11, 5);
        x.due(1).meet(0, 11);
        x.due(1).meet(11, 0);
        x.due(1).meet(0, 0);
        x.due(1).meet(11, 11);
        // At variable 0, which is a class as good as any.
        Run zero = Run.with(0, 1, 0, 0, 2, 0);
        zero.due(1).meet(1, 2);
        Run zeroItself = Run.with(0, 0, 0, 0, 1, 0);
        zeroItself.due(1).meet(0, 1);
        // At two variables of one class.
        Run joined = Run.with(0, 0, 5, 0, 1, 6, 0, 2, 5, 0, 2, 6);
        joined.due(1).meet(0, 1);
        joined.due(3).drop(3);
        joined.due(0).meet(0, 1);
        // Two variables of one class of which only one was told to point.
        Run together = Run.with(0, 0, 1, 0, 0, 2, 0, 2, 3);
        together.due(1).meet(1, 2);
        together.due(1).meet(1, 1);
        Run all = allInOne();
        for (int v = 0; v < 12; v++) {
            for (int w = 0; w < 12; w++) {
                all.due(1).meet(v, w);
            }
        }
    }

    private static void promise7Else() {
        Run none = new Run();
        for (int v = 0; v < 12; v++) {
            for (int w = 0; w < 12; w++) {
                none.due(0).meet(v, w);
            }
        }
        Run x = Run.with(0, 0, 5, 0, 11, 6);
        x.due(0).meet(0, 11);
        x.due(0).meet(11, 0);
        x.due(0).meet(0, 1);
        x.due(0).meet(1, 0);
        x.due(0).meet(5, 6);
        x.due(0).meet(5, 5);
        x.due(0).meet(0, 5);
        // In the same class, which points at none.
        Run together = Run.with(0, 0, 1, 0, 0, 2);
        together.due(1).same(1, 2);
        together.due(0).meet(1, 2);
        // Each points at the other: at two different classes.
        Run eachOther = Run.with(0, 0, 11, 0, 11, 0);
        eachOther.due(0).meet(0, 11);
    }

    private static void promise7Refuses() {
        Run all = allInOne();
        Run none = new Run();
        for (int wrong : Wrong.VARIABLES) {
            all.due(-1).meet(wrong, 0);
            all.due(-1).meet(0, wrong);
            all.due(-1).meet(11, wrong);
            all.due(-1).meet(wrong, wrong);
            none.due(-1).meet(wrong, 0);
            none.due(-1).meet(0, wrong);
            none.due(-1).meet(wrong, wrong);
        }
        all.due(1).meet(0, 11);
        none.due(0).meet(0, 11);
    }

    private static void promise8Most() {
        new Run().due(12).classes();
        // Twelve also where all point, if nothing has to be made one.
        Run ring = longestWay();
        ring.due(12).classes();
        ring.due(12).assign(0, 11, 0);
        ring.due(12).classes();
        Run emptied = Run.with(0, 0, 1, 0, 0, 2);
        emptied.due(11).classes();
        emptied.due(1).drop(1);
        emptied.due(12).classes();
    }

    private static void promise8Least() {
        Run x = new Run();
        for (int v = 0; v < 12; v++) {
            x.due(v + 1).assign(0, 0, v);
            x.due(12 - v).classes();
        }
        for (int count = 11; count >= 0; count--) {
            x.due(count).drop(count);
            x.due(count == 0 ? 12 : 13 - count).classes();
        }
        Run refused = allInOne();
        refused.due(-1).assign(0, 0, 12);
        refused.due(1).classes();
    }

    private static void promise9None() {
        new Run().due(0).pointing();
        Run idle = new Run();
        idle.addIdle(0, 24);
        idle.due(0).pointing();
        Run emptied = Run.with(0, 0, 1);
        emptied.due(1).pointing();
        emptied.due(0).drop(0);
        emptied.due(0).pointing();
    }

    private static void promise9OneClass() {
        Run all = allInOne();
        all.due(1).classes();
        all.due(1).pointing();
        // All but one in a class that points at none; the one points at it.
        Run most = new Run();
        for (int v = 0; v < 11; v++) {
            most.due(v + 1).assign(0, 11, v);
        }
        most.due(2).classes();
        most.due(1).pointing();
        // Now that class points at the one, which is another class still.
        most.due(12).assign(0, 10, 11);
        most.due(2).classes();
        most.due(2).pointing();
        most.due(13).assign(0, 11, 11);
        most.due(1).classes();
        most.due(1).pointing();
    }

    private static void promise9Most() {
        Run x = new Run();
        for (int v = 0; v < 12; v++) {
            x.due(v).pointing();
            x.due(v + 1).assign(0, v, 11);
        }
        x.due(12).pointing();
        x.due(12).classes();
        // Two pointing classes made one are one that points.
        Run joined = Run.with(0, 1, 3, 0, 2, 4, 0, 0, 1);
        joined.due(3).pointing();
        joined.due(4).assign(0, 0, 2);
        joined.due(2).pointing();
        joined.due(10).classes();
    }

    private static void promise10Ends() {
        Run none = new Run();
        none.due(0).steps(0);
        none.due(0).steps(11);
        Run longest = longestWay();
        for (int v = 0; v < 12; v++) {
            longest.due(11 - v).steps(v);
        }
        // The same way from 11 down to 0.
        Run back = new Run();
        for (int v = 11; v > 0; v--) {
            back.due(12 - v).assign(0, v, v - 1);
        }
        for (int v = 0; v < 12; v++) {
            back.due(v).steps(v);
        }
        // A way goes on from any member of the class it has come to.
        Run classes = Run.with(0, 0, 1, 0, 0, 2, 0, 2, 3);
        classes.due(2).steps(0);
        classes.due(1).steps(1);
        classes.due(1).steps(2);
        classes.due(0).steps(3);
    }

    private static void promise10Never() {
        Run.with(0, 0, 0).due(12).steps(0);
        Run.with(0, 11, 11).due(12).steps(11);
        Run two = Run.with(0, 0, 1, 0, 1, 0, 0, 2, 1, 0, 3, 4);
        two.due(12).steps(0);
        two.due(12).steps(1);
        two.due(12).steps(2);
        two.due(1).steps(3);
        two.due(0).steps(4);
        // The longest ring, and the longest way into the shortest ring.
        Run ring = longestWay();
        ring.due(12).assign(0, 11, 0);
        Run into = longestWay();
        into.due(12).assign(0, 11, 11);
        for (int v = 0; v < 12; v++) {
            ring.due(12).steps(v);
            into.due(12).steps(v);
        }
        // Taken out, the way ends again.
        into.due(11).drop(11);
        into.due(11).steps(0);
        allInOne().due(12).steps(11);
    }

    private static void promise10Refuses() {
        Run all = allInOne();
        Run none = new Run();
        for (int wrong : Wrong.VARIABLES) {
            all.due(-1).steps(wrong);
            none.due(-1).steps(wrong);
        }
        all.due(12).steps(0);
        none.due(0).steps(11);
    }
}
