/** A build tool that does no more work than it must. */
public final class BuildGraph {
    public static final int BAD_TASK = -1;
    public static final int BAD_SOURCE = -2;
    public static final int BAD_KIND = -3;
    public static final int FULL = -4;
    public static final int NOT_NEEDED = 0;
    public static final int UP_TO_DATE = 1;
    public static final int FROM_STORE = 2;
    public static final int EXECUTED = 3;

    private static final int SOURCES = 8;
    private static final int TASKS = 12;
    private static final int MOST_INPUTS = 3;
    private static final int MOST_BUILDS = 40;
    private static final int INPUT_SLOTS = TASKS * MOST_INPUTS;

    private static final int KIND_MASK = 3;
    // Kind 0, SUM, needs no name: it is what is left when it is none of these.
    private static final int MIX = 1;
    private static final int MAX = 2;
    private static final int LOW = 3;
    private static final int MIX_FACTOR = 31;
    private static final int LOW_MASK = 15;

    // A record lies in an array as six numbers from a start on: the kind, the
    // constant, how many values there are, and the values. Values that are not
    // there are 0, so that two records are the same if all six numbers are.
    private static final int KIND_AT = 0;
    private static final int CONSTANT_AT = 1;
    private static final int COUNT_AT = 2;
    private static final int VALUES_AT = 3;
    private static final int RECORD = VALUES_AT + MOST_INPUTS;
    private static final int TASK_RECORDS = TASKS * RECORD;
    private static final int TASK_STORE = MOST_BUILDS * RECORD;
    private static final int STORE = TASKS * TASK_STORE;

    private final int[] contents = new int[SOURCES];

    private int taskCount = 0;
    private final int[] kinds = new int[TASKS];
    private final int[] constants = new int[TASKS];
    private final int[] inputCounts = new int[TASKS];
    private final int[] inputs = new int[INPUT_SLOTS];

    private final boolean[] hasLast = new boolean[TASKS];
    private final int[] lastRecords = new int[TASK_RECORDS];

    private final int[] storeCounts = new int[TASKS];
    private final int[] storeRecords = new int[STORE];
    private int buildsSinceEmptied = 0;

    private final int[] statuses = new int[TASKS];
    private final int[] outputs = new int[TASKS];
    private int executedInAll = 0;

    // Worked out anew by each call that looks at them; they carry nothing from
    // one call to the next.
    private final int[] nowRecords = new int[TASK_RECORDS];
    private final int[] nowOutputs = new int[TASKS];
    private final boolean[] isNeeded = new boolean[TASKS];

    public BuildGraph() {
    }

    public int content(int source, int content) {
        if (!isSource(source)) {
            return BAD_SOURCE;
        }
        int old = contents[source];
        contents[source] = content;
        return old;
    }

    public int task(int kind, int constant) {
        if (taskCount >= TASKS) {
            return FULL;
        }
        int number = taskCount;
        kinds[number] = kind & KIND_MASK;
        constants[number] = constant;
        taskCount = number + 1;
        return number;
    }

    public int input(int task, int input) {
        if (!isTask(task)) {
            return BAD_TASK;
        }
        // Only smaller numbers may be inputs, so the tasks never form a circle.
        if (input < 0 || input >= SOURCES + task) {
            return BAD_SOURCE;
        }
        int count = inputCounts[task];
        if (count >= MOST_INPUTS) {
            return FULL;
        }
        inputs[task * MOST_INPUTS + count] = input;
        inputCounts[task] = count + 1;
        return count + 1;
    }

    public int constant(int task, int constant) {
        if (!isTask(task)) {
            return BAD_TASK;
        }
        int old = constants[task];
        constants[task] = constant;
        return old;
    }

    public int build(int task) {
        if (!isTask(task)) {
            return BAD_TASK;
        }
        if (buildsSinceEmptied >= MOST_BUILDS) {
            return FULL;
        }
        workOutTasks();
        markNeeded(task);
        int count = 0;
        for (int t = 0; t < taskCount; t++) {
            statuses[t] = NOT_NEEDED;
            if (isNeeded[t]) {
                handle(t);
            }
            if (statuses[t] == EXECUTED) {
                count++;
            }
        }
        buildsSinceEmptied++;
        executedInAll += count;
        return count;
    }

    public int clean(int task) {
        if (!isTask(task)) {
            return BAD_TASK;
        }
        int had = hasLast[task] ? 1 : 0;
        hasLast[task] = false;
        return had;
    }

    public void emptyStore() {
        for (int t = 0; t < TASKS; t++) {
            storeCounts[t] = 0;
        }
        buildsSinceEmptied = 0;
    }

    public int status(int task) {
        return isTask(task) ? statuses[task] : BAD_TASK;
    }

    public int output(int task) {
        return isTask(task) ? outputs[task] : 0;
    }

    public int fresh(int task) {
        if (!isTask(task)) {
            return 0;
        }
        workOutTasks();
        return nowOutputs[task];
    }

    public int needed(int task) {
        if (!isTask(task)) {
            return BAD_TASK;
        }
        markNeeded(task);
        int count = 0;
        for (int t = 0; t <= task; t++) {
            if (isNeeded[t]) {
                count++;
            }
        }
        return count;
    }

    public int work(int task) {
        if (!isTask(task)) {
            return BAD_TASK;
        }
        workOutTasks();
        markNeeded(task);
        int count = 0;
        for (int t = 0; t <= task; t++) {
            if (isNeeded[t] && statusNow(t) == EXECUTED) {
                count++;
            }
        }
        return count;
    }

    public int executed() {
        return executedInAll;
    }

    public int stale() {
        workOutTasks();
        int count = 0;
        for (int t = 0; t < taskCount; t++) {
            if (!isLastRecord(t)) {
                count++;
            }
        }
        return count;
    }

    private boolean isSource(int source) {
        return source >= 0 && source < SOURCES;
    }

    private boolean isTask(int task) {
        return task >= 0 && task < taskCount;
    }

    /** Ascending, because a task's inputs have smaller numbers than the task. */
    private void workOutTasks() {
        for (int t = 0; t < taskCount; t++) {
            writeRecord(t);
            nowOutputs[t] = outputOfRecord(t * RECORD);
        }
    }

    private void writeRecord(int task) {
        int start = task * RECORD;
        nowRecords[start + KIND_AT] = kinds[task];
        nowRecords[start + CONSTANT_AT] = constants[task];
        nowRecords[start + COUNT_AT] = inputCounts[task];
        for (int i = 0; i < MOST_INPUTS; i++) {
            nowRecords[start + VALUES_AT + i] = i < inputCounts[task] ? inputValue(task, i) : 0;
        }
    }

    private int inputValue(int task, int place) {
        int input = inputs[task * MOST_INPUTS + place];
        return input < SOURCES ? contents[input] : nowOutputs[input - SOURCES];
    }

    private int outputOfRecord(int start) {
        int kind = nowRecords[start + KIND_AT];
        int count = nowRecords[start + COUNT_AT];
        // LOW is the one kind whose output the constant has no part in.
        int x = kind == LOW ? 0 : nowRecords[start + CONSTANT_AT];
        for (int i = 0; i < count; i++) {
            int value = nowRecords[start + VALUES_AT + i];
            if (kind == MIX) {
                x = x * MIX_FACTOR + value;
            } else if (kind == MAX) {
                x = value > x ? value : x;
            } else {
                x += value;
            }
        }
        return kind == LOW ? x & LOW_MASK : x;
    }

    /** Descending, so that a task is marked before its own inputs are looked at. */
    private void markNeeded(int task) {
        for (int t = 0; t < TASKS; t++) {
            isNeeded[t] = t == task;
        }
        for (int t = task; t >= 0; t--) {
            if (isNeeded[t]) {
                markInputs(t);
            }
        }
    }

    private void markInputs(int task) {
        for (int i = 0; i < inputCounts[task]; i++) {
            int input = inputs[task * MOST_INPUTS + i];
            if (input >= SOURCES) {
                isNeeded[input - SOURCES] = true;
            }
        }
    }

    /** What a build would make of a needed task; nowRecords must be worked out. */
    private int statusNow(int task) {
        if (isLastRecord(task)) {
            return UP_TO_DATE;
        }
        return isInStore(task) ? FROM_STORE : EXECUTED;
    }

    private boolean isLastRecord(int task) {
        int start = task * RECORD;
        return hasLast[task] && isNowRecord(task, lastRecords, start);
    }

    private boolean isInStore(int task) {
        for (int i = 0; i < storeCounts[task]; i++) {
            int start = task * TASK_STORE + i * RECORD;
            if (isNowRecord(task, storeRecords, start)) {
                return true;
            }
        }
        return false;
    }

    private boolean isNowRecord(int task, int[] records, int start) {
        for (int i = 0; i < RECORD; i++) {
            if (records[start + i] != nowRecords[task * RECORD + i]) {
                return false;
            }
        }
        return true;
    }

    private void handle(int task) {
        statuses[task] = statusNow(task);
        if (statuses[task] == EXECUTED) {
            addToStore(task);
        }
        copyNowRecord(task, lastRecords, task * RECORD);
        hasLast[task] = true;
        // Taken from the store or not, the same record gives the same output.
        outputs[task] = nowOutputs[task];
    }

    private void addToStore(int task) {
        // A build adds at most one record of a task, and no more than
        // MOST_BUILDS builds are made before the store is emptied.
        int count = storeCounts[task];
        if (count < MOST_BUILDS) {
            copyNowRecord(task, storeRecords, task * TASK_STORE + count * RECORD);
            storeCounts[task] = count + 1;
        }
    }

    private void copyNowRecord(int task, int[] records, int start) {
        for (int i = 0; i < RECORD; i++) {
            records[start + i] = nowRecords[task * RECORD + i];
        }
    }
}
