public final class AliasClasses {
    private static final int VARIABLES = 12;
    private static final int CAPACITY = 24;
    private static final int NONE = -1;
    private static final int REFUSED = -1;

    // Kind 1, a plain copy, has no name: it needs no treatment of its own.
    private static final int ADDRESS = 0;
    private static final int LOAD = 2;
    private static final int STORE = 3;

    // A round that changes anything makes a class point (at most 12 times, as
    // a class that points goes on pointing) or makes two classes one (at most
    // 11 times): after 23 rounds no rule asks for more.
    private static final int ROUNDS = 2 * VARIABLES;

    private final int[] kinds = new int[CAPACITY];
    private final int[] lefts = new int[CAPACITY];
    private final int[] rights = new int[CAPACITY];
    private int held;

    // Both are kept for every variable, not only for a class's least one, so
    // that no question has to look for the class first: the least variable of
    // its class, and the least variable of the class pointed at (or NONE).
    private final int[] leader = new int[VARIABLES];
    private final int[] pointee = new int[VARIABLES];

    public AliasClasses() {
        held = 0;
        separateAll();
    }

    public int assign(int kind, int a, int b) {
        if (!isKind(kind) || !areVariables(a, b) || held >= CAPACITY) {
            return REFUSED;
        }
        kinds[held] = kind;
        lefts[held] = a;
        rights[held] = b;
        held++;
        divide();
        return held;
    }

    public int drop(int number) {
        if (number < 0 || number >= held) {
            return REFUSED;
        }
        held--;
        for (int i = number; i < held; i++) {
            kinds[i] = kinds[i + 1];
            lefts[i] = lefts[i + 1];
            rights[i] = rights[i + 1];
        }
        divide();
        return held;
    }

    public int same(int a, int b) {
        if (!areVariables(a, b)) {
            return REFUSED;
        }
        return leader[a] == leader[b] ? 1 : 0;
    }

    public int members(int a) {
        if (!isVariable(a)) {
            return REFUSED;
        }
        int sum = 0;
        for (int v = 0; v < VARIABLES; v++) {
            if (leader[v] == leader[a]) {
                sum += 1 << v;
            }
        }
        return sum;
    }

    public int target(int a) {
        if (!isVariable(a)) {
            return REFUSED;
        }
        return pointee[a];
    }

    public int meet(int a, int b) {
        if (!areVariables(a, b)) {
            return REFUSED;
        }
        return pointee[a] != NONE && pointee[a] == pointee[b] ? 1 : 0;
    }

    public int classes() {
        int count = 0;
        for (int v = 0; v < VARIABLES; v++) {
            if (leader[v] == v) {
                count++;
            }
        }
        return count;
    }

    public int pointing() {
        int count = 0;
        for (int v = 0; v < VARIABLES; v++) {
            if (leader[v] == v && pointee[v] != NONE) {
                count++;
            }
        }
        return count;
    }

    public int steps(int a) {
        if (!isVariable(a)) {
            return REFUSED;
        }
        // A way that ends visits each of at most 12 classes once, so it has at
        // most 11 steps: a twelfth one tells that the way goes round for ever.
        int taken = 0;
        int at = a;
        while (taken < VARIABLES && pointee[at] != NONE) {
            at = pointee[at];
            taken++;
        }
        return taken;
    }

    private static boolean isKind(int kind) {
        return kind >= ADDRESS && kind <= STORE;
    }

    private static boolean isVariable(int v) {
        return v >= 0 && v < VARIABLES;
    }

    private static boolean areVariables(int a, int b) {
        return isVariable(a) && isVariable(b);
    }

    // Begins anew each time, since what a dropped assignment had joined can't
    // be told from what the others had.
    private void divide() {
        separateAll();
        for (int round = 0; round < ROUNDS; round++) {
            for (int i = 0; i < held; i++) {
                applyRule(kinds[i], lefts[i], rights[i]);
            }
        }
    }

    private void separateAll() {
        for (int v = 0; v < VARIABLES; v++) {
            leader[v] = v;
            pointee[v] = NONE;
        }
    }

    private void applyRule(int kind, int a, int b) {
        int from = kind == STORE ? pointee[a] : a;
        int to = kind == ADDRESS ? b : pointee[b];
        if (kind == LOAD && to != NONE) {
            to = pointee[to];
        }
        if (from != NONE && to != NONE) {
            letPoint(from, to);
        }
    }

    private void letPoint(int from, int to) {
        if (pointee[from] != NONE) {
            unite(pointee[from], to);
            return;
        }
        for (int v = 0; v < VARIABLES; v++) {
            if (leader[v] == leader[from]) {
                pointee[v] = leader[to];
            }
        }
    }

    // Two classes that are made one may have pointed at two, which are then
    // made one too, and so on; each turn but the last leaves one class fewer.
    private void unite(int first, int second) {
        int p = first;
        int q = second;
        for (int turn = 0; turn < VARIABLES && leader[p] != leader[q]; turn++) {
            int nextP = pointee[p];
            int nextQ = pointee[q];
            join(p, q);
            if (nextP == NONE || nextQ == NONE) {
                return;
            }
            p = nextP;
            q = nextQ;
        }
    }

    private void join(int p, int q) {
        int low = leader[p] < leader[q] ? leader[p] : leader[q];
        int high = leader[p] < leader[q] ? leader[q] : leader[p];
        int joint = pointee[p] != NONE ? pointee[p] : pointee[q];
        for (int v = 0; v < VARIABLES; v++) {
            if (leader[v] == low || leader[v] == high) {
                leader[v] = low;
                pointee[v] = joint;
            }
            if (pointee[v] == high) {
                pointee[v] = low;
            }
        }
    }
}
