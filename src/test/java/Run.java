// One new object and the calls made on it, each told with the answer that is
// due: x.due(1).assign(0, 0, 1). A run of more calls than the document promises
// anything about is itself counted as wrong.
final class Run {
    static final int MOST_CALLS = 512;

    private final AliasClasses x = new AliasClasses();
    private int calls = 0;
    private int want = 0;

    // Makes a run from triples kind, a, b.
    static Run with(int... triples) {
        Run run = new Run();
        for (int i = 0; i < triples.length; i += 3) {
            run.due(i / 3 + 1).assign(triples[i], triples[i + 1], triples[i + 2]);
        }
        return run;
    }

    // Adds so many assignments that never ask for anything by themselves.
    void addIdle(int from, int count) {
        for (int i = 0; i < count; i++) {
            due(from + i + 1).assign(1, 0, 0);
        }
    }

    Run due(int answer) {
        want = answer;
        return this;
    }

    void assign(int kind, int a, int b) {
        look("assign(" + kind + ", " + a + ", " + b + ")", x.assign(kind, a, b));
    }

    void drop(int number) {
        look("drop(" + number + ")", x.drop(number));
    }

    void same(int a, int b) {
        look("same(" + a + ", " + b + ")", x.same(a, b));
    }

    void members(int a) {
        look("members(" + a + ")", x.members(a));
    }

    void target(int a) {
        look("target(" + a + ")", x.target(a));
    }

    void meet(int a, int b) {
        look("meet(" + a + ", " + b + ")", x.meet(a, b));
    }

    void classes() {
        look("classes()", x.classes());
    }

    void pointing() {
        look("pointing()", x.pointing());
    }

    void steps(int a) {
        look("steps(" + a + ")", x.steps(a));
    }

    // The targets of variables 0, 1, ...; those not told are to have none.
    void dueTargets(int... wanted) {
        for (int v = 0; v < 12; v++) {
            due(v < wanted.length ? wanted[v] : -1).target(v);
        }
    }

    // Only the variables told are in one class; all others are alone.
    void dueTogether(int... variables) {
        int sum = 0;
        for (int v : variables) {
            sum += 1 << v;
        }
        for (int v = 0; v < 12; v++) {
            due((sum >> v & 1) == 1 ? sum : 1 << v).members(v);
        }
    }

    // As if there were no assignment.
    void dueUntouched() {
        dueTargets();
        dueTogether();
        due(12).classes();
        due(0).pointing();
    }

    int callsLeft() {
        return MOST_CALLS - calls;
    }

    private void look(String call, int got) {
        calls++;
        Check.due("call " + calls + ", " + call, got, want);
        if (calls > MOST_CALLS) {
            Check.due("calls of one run", calls, MOST_CALLS);
        }
    }
}
