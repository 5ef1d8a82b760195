import java.util.ArrayList;
import java.util.List;

// Compares with the document's definition itself, not with a way to reach it:
// of all divisions of four variables, with every choice of what their classes
// point at, those that keep the rules are looked through for the finest one
// that has the fewest classes pointing.
public final class DefinitionTest {
    private static final int USED = 4;
    private static final int SETS = 1500;

    // The division looked at, and the best so far: the least variable of each
    // variable's class, and of the class it points at (-1 for none).
    private static final int[] leader = new int[USED];
    private static final int[] pointee = new int[USED];
    private static int[] bestLeader;
    private static int[] bestPointee;

    public static void main(String[] args) {
        Numbers numbers = new Numbers(20261115);
        for (int set = 0; set < SETS; set++) {
            int[] names = names(numbers);
            int[][] held = new int[1 + numbers.below(8)][];
            AliasClasses x = new AliasClasses();
            for (int i = 0; i < held.length; i++) {
                // Every other one is an address, or hardly anything would point.
                int kind = numbers.below(2) == 0 ? 0 : numbers.below(4);
                held[i] = new int[] {kind, numbers.below(USED), numbers.below(USED)};
                x.assign(kind, names[held[i][1]], names[held[i][2]]);
            }
            findBest(held);
            compare("set " + set, x, names);
        }
        Check.end();
    }

    // Four different variables of the twelve, in rising order, so that the
    // least of a class stays the least.
    private static int[] names(Numbers numbers) {
        int[] names = new int[USED];
        int from = 0;
        for (int i = 0; i < USED; i++) {
            names[i] = from + numbers.below(12 - (USED - 1 - i) - from);
            from = names[i] + 1;
        }
        return names;
    }

    private static void compare(String where, AliasClasses x, int[] names) {
        for (int v = 0; v < USED; v++) {
            int want = bestPointee[v] < 0 ? -1 : names[bestPointee[v]];
            Check.due(where + ": target(" + names[v] + ")", x.target(names[v]), want);
            for (int w = 0; w < USED; w++) {
                int same = bestLeader[v] == bestLeader[w] ? 1 : 0;
                Check.due(where + ": same(" + names[v] + ", " + names[w] + ")", x.same(names[v], names[w]), same);
            }
        }
        Check.due(where + ": classes()", x.classes(), 12 - USED + classCount(bestLeader));
        Check.due(where + ": pointing()", x.pointing(), pointingCount(bestLeader, bestPointee));
    }

    private static void findBest(int[][] held) {
        List<int[][]> kept = divisionsThatKeep(held);
        int found = 0;
        int most = 0;
        int fewest = 0;
        for (int[][] one : kept) {
            int classes = classCount(one[0]);
            int pointing = pointingCount(one[0], one[1]);
            if (found > 0 && classes == most && pointing == fewest) {
                found++;
            }
            if (found == 0 || classes > most || classes == most && pointing < fewest) {
                found = 1;
                most = classes;
                fewest = pointing;
                bestLeader = one[0];
                bestPointee = one[1];
            }
        }
        Check.due("how many are best", found, 1);
        // To have the most classes is not yet to be the finest.
        for (int[][] one : kept) {
            Check.due("a division that parts what the best joins", variablesParted(one[0]), 0);
        }
    }

    // Each as the leaders and the pointees of all variables.
    private static List<int[][]> divisionsThatKeep(int[][] held) {
        List<int[][]> kept = new ArrayList<>();
        for (int code = 0; code < 256; code++) {
            if (!takeDivision(code)) {
                continue;
            }
            for (int points = 0; points < 625; points++) {
                if (takePointing(points) && keepsRules(held)) {
                    kept.add(new int[][] {leader.clone(), pointee.clone()});
                }
            }
        }
        return kept;
    }

    private static int variablesParted(int[] leaders) {
        int count = 0;
        for (int v = 0; v < USED; v++) {
            count += leaders[v] != leaders[bestLeader[v]] ? 1 : 0;
        }
        return count;
    }

    private static boolean takeDivision(int code) {
        for (int v = 0; v < USED; v++) {
            leader[v] = code >> 2 * v & 3;
        }
        for (int v = 0; v < USED; v++) {
            if (leader[v] > v || leader[leader[v]] != leader[v]) {
                return false;
            }
        }
        return true;
    }

    private static boolean takePointing(int points) {
        int rest = points;
        for (int v = 0; v < USED; v++) {
            pointee[v] = rest % 5 - 1;
            rest /= 5;
        }
        for (int v = 0; v < USED; v++) {
            boolean isLeader = pointee[v] < 0 || leader[pointee[v]] == pointee[v];
            if (!isLeader || pointee[v] != pointee[leader[v]]) {
                return false;
            }
        }
        return true;
    }

    private static boolean keepsRules(int[][] held) {
        for (int[] one : held) {
            int a = one[1];
            int b = one[2];
            boolean kept = true;
            if (one[0] == 0) {
                kept = pointee[a] == leader[b];
            } else if (one[0] == 1 && pointee[b] >= 0) {
                kept = pointee[a] == pointee[b];
            } else if (one[0] == 2 && pointee[b] >= 0 && pointee[pointee[b]] >= 0) {
                kept = pointee[a] == pointee[pointee[b]];
            } else if (one[0] == 3 && pointee[a] >= 0 && pointee[b] >= 0) {
                kept = pointee[pointee[a]] == pointee[b];
            }
            if (!kept) {
                return false;
            }
        }
        return true;
    }

    private static int classCount(int[] leaders) {
        int count = 0;
        for (int v = 0; v < USED; v++) {
            count += leaders[v] == v ? 1 : 0;
        }
        return count;
    }

    private static int pointingCount(int[] leaders, int[] pointees) {
        int count = 0;
        for (int v = 0; v < USED; v++) {
            count += leaders[v] == v && pointees[v] >= 0 ? 1 : 0;
        }
        return count;
    }
}
