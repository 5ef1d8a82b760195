import java.util.ArrayList;
import java.util.List;

// Long runs of mixed calls over all twelve variables, wrong ones among them,
// compared with a model that knows no classes: two relations between
// variables, "is in one class with" and "points at", are filled up until no
// rule adds a pair.
public final class ClosureTest {
    private static final int VARIABLES = 12;
    private static final int RUNS = 400;
    private static final int CALLS = 512;

    private static final List<int[]> held = new ArrayList<>();
    private static boolean[][] alike;
    private static boolean[][] points;
    private static boolean grew;

    public static void main(String[] args) {
        Numbers numbers = new Numbers(12);
        for (int run = 0; run < RUNS; run++) {
            oneRun("run " + run, numbers, run % 5);
        }
        Check.end();
    }

    private static void oneRun(String where, Numbers numbers, int manner) {
        AliasClasses x = new AliasClasses();
        held.clear();
        fill();
        for (int call = 0; call < CALLS; call++) {
            int choice = numbers.below(16);
            if (choice < 3) {
                addOne(where, x, numbers, manner);
            } else if (choice == 3) {
                dropOne(where, x, numbers);
            } else {
                ask(where, x, choice, variable(numbers), variable(numbers));
            }
        }
    }

    private static int variable(Numbers numbers) {
        return numbers.below(40) == 0 ? numbers.below(2) * 13 - 1 : numbers.below(VARIABLES);
    }

    private static void addOne(String where, AliasClasses x, Numbers numbers, int manner) {
        int kind = numbers.below(60) == 0 ? numbers.below(2) * 5 - 1 : numbers.below(4);
        // Many addresses make one class of nearly all: most manners have few.
        if (kind == 0 && numbers.below(5) < manner) {
            kind = 1 + numbers.below(3);
        }
        int a = variable(numbers);
        int b = variable(numbers);
        int want = -1;
        if (kind >= 0 && kind < 4 && isVariable(a) && isVariable(b) && held.size() < 24) {
            held.add(new int[] {kind, a, b});
            want = held.size();
            fill();
        }
        Check.due(where + ": assign(" + kind + ", " + a + ", " + b + ")", x.assign(kind, a, b), want);
    }

    private static void dropOne(String where, AliasClasses x, Numbers numbers) {
        int number = numbers.below(held.size() + 2) - 1;
        int want = -1;
        if (number >= 0 && number < held.size()) {
            held.remove(number);
            want = held.size();
            fill();
        }
        Check.due(where + ": drop(" + number + ")", x.drop(number), want);
    }

    private static void ask(String where, AliasClasses x, int choice, int a, int b) {
        boolean one = isVariable(a);
        boolean two = one && isVariable(b);
        String pair = "(" + a + ", " + b + ")";
        switch (choice) {
            case 4, 5 -> Check.due(where + ": same" + pair, x.same(a, b), two ? alike[a][b] ? 1 : 0 : -1);
            case 6, 7 -> Check.due(where + ": members " + a, x.members(a), one ? sum(alike[a]) : -1);
            case 8, 9 -> Check.due(where + ": target " + a, x.target(a), one ? first(points[a]) : -1);
            case 10, 11 -> Check.due(where + ": meet" + pair, x.meet(a, b), two ? common(a, b) : -1);
            case 12 -> Check.due(where + ": classes", x.classes(), leaders(false));
            case 13 -> Check.due(where + ": pointing", x.pointing(), leaders(true));
            default -> Check.due(where + ": steps " + a, x.steps(a), one ? way(a) : -1);
        }
    }

    private static boolean isVariable(int v) {
        return v >= 0 && v < VARIABLES;
    }

    private static int sum(boolean[] row) {
        int sum = 0;
        for (int v = VARIABLES - 1; v >= 0; v--) {
            sum = 2 * sum + (row[v] ? 1 : 0);
        }
        return sum;
    }

    private static int first(boolean[] row) {
        for (int v = 0; v < VARIABLES; v++) {
            if (row[v]) {
                return v;
            }
        }
        return -1;
    }

    private static int common(int a, int b) {
        return (sum(points[a]) & sum(points[b])) != 0 ? 1 : 0;
    }

    private static int leaders(boolean thatPoint) {
        int count = 0;
        for (int v = 0; v < VARIABLES; v++) {
            if (first(alike[v]) == v && (!thatPoint || first(points[v]) >= 0)) {
                count++;
            }
        }
        return count;
    }

    private static int way(int a) {
        boolean[] seen = new boolean[VARIABLES];
        int steps = 0;
        int at = first(alike[a]);
        while (first(points[at]) >= 0) {
            if (seen[at]) {
                return 12;
            }
            seen[at] = true;
            at = first(points[at]);
            steps++;
        }
        return steps;
    }

    private static void fill() {
        alike = new boolean[VARIABLES][VARIABLES];
        points = new boolean[VARIABLES][VARIABLES];
        for (int v = 0; v < VARIABLES; v++) {
            alike[v][v] = true;
        }
        do {
            grew = false;
            for (int[] one : held) {
                rule(one[0], one[1], one[2]);
            }
            for (int u = 0; u < VARIABLES; u++) {
                for (int v = 0; v < VARIABLES; v++) {
                    spread(u, v);
                }
            }
        } while (grew);
    }

    private static void rule(int kind, int a, int b) {
        if (kind == 0) {
            add(points, a, b);
        }
        for (int u = 0; u < VARIABLES; u++) {
            if (kind == 1 && points[b][u]) {
                add(points, a, u);
            }
            for (int v = 0; v < VARIABLES; v++) {
                if (kind == 2 && points[b][u] && points[u][v]) {
                    add(points, a, v);
                }
                if (kind == 3 && points[a][u] && points[b][v]) {
                    add(points, u, v);
                }
            }
        }
    }

    private static void spread(int u, int v) {
        for (int w = 0; w < VARIABLES; w++) {
            if (points[w][u] && points[w][v] || alike[u][w] && alike[w][v]) {
                add(alike, u, v);
            }
            if (alike[u][v] && points[v][w]) {
                add(points, u, w);
            }
            if (alike[u][v] && points[w][v]) {
                add(points, w, u);
            }
        }
    }

    private static void add(boolean[][] relation, int u, int v) {
        if (!relation[u][v]) {
            relation[u][v] = true;
            grew = true;
        }
    }
}
