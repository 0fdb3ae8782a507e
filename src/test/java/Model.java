import java.util.ArrayList;
import java.util.HashMap;
import java.util.HashSet;
import java.util.List;
import java.util.Map;
import java.util.Set;
import java.util.TreeSet;

/**
 * The document once more, written another way: with lists, sets and recursion,
 * and each output worked out from its inputs each time it is asked for.
 */
final class Model {
    private final int[] contents = new int[8];
    private final List<Integer> kinds = new ArrayList<>();
    private final List<Integer> constants = new ArrayList<>();
    private final List<List<Integer>> inputs = new ArrayList<>();
    private final Map<Integer, List<Integer>> last = new HashMap<>();
    private final Map<Integer, Set<List<Integer>>> store = new HashMap<>();
    private final Map<Integer, Integer> statuses = new HashMap<>();
    private final Map<Integer, Integer> outputs = new HashMap<>();
    private int builds = 0;
    private int executed = 0;

    int content(int source, int content) {
        if (source < 0 || source > 7) {
            return -2;
        }
        int old = contents[source];
        contents[source] = content;
        return old;
    }

    int task(int kind, int constant) {
        if (kinds.size() == 12) {
            return -4;
        }
        kinds.add(Math.floorMod(kind, 4));
        constants.add(constant);
        inputs.add(new ArrayList<>());
        return kinds.size() - 1;
    }

    int input(int task, int input) {
        if (isNone(task)) {
            return -1;
        }
        boolean source = input >= 0 && input <= 7;
        boolean smaller = input >= 8 && (long) input - 8 < task;
        if (!source && !smaller) {
            return -2;
        }
        if (inputs.get(task).size() == 3) {
            return -4;
        }
        inputs.get(task).add(input);
        return inputs.get(task).size();
    }

    int constant(int task, int constant) {
        return isNone(task) ? -1 : constants.set(task, constant);
    }

    int build(int task) {
        if (isNone(task)) {
            return -1;
        }
        if (builds >= 40) {
            return -4;
        }
        builds++;
        statuses.clear();
        int count = 0;
        for (int t : neededSet(task)) {
            List<Integer> record = record(t);
            statuses.put(t, fate(t));
            if (statuses.get(t) == 3) {
                count++;
                store.computeIfAbsent(t, k -> new HashSet<>()).add(record);
            }
            last.put(t, record);
            outputs.put(t, fresh(t));
        }
        executed += count;
        return count;
    }

    int clean(int task) {
        if (isNone(task)) {
            return -1;
        }
        return last.remove(task) == null ? 0 : 1;
    }

    void emptyStore() {
        store.clear();
        builds = 0;
    }

    int status(int task) {
        return isNone(task) ? -1 : statuses.getOrDefault(task, 0);
    }

    int output(int task) {
        return outputs.getOrDefault(task, 0);
    }

    int fresh(int task) {
        if (isNone(task)) {
            return 0;
        }
        int constant = constants.get(task);
        List<Integer> values = values(task);
        int sum = values.stream().reduce(0, (a, b) -> a + b);
        switch (kinds.get(task)) {
            case 0:
                return constant + sum;
            case 1:
                return values.stream().reduce(constant, (x, value) -> x * 31 + value);
            case 2:
                return values.stream().reduce(constant, Math::max);
            default:
                return sum & 15;
        }
    }

    int needed(int task) {
        return isNone(task) ? -1 : neededSet(task).size();
    }

    int work(int task) {
        if (isNone(task)) {
            return -1;
        }
        return (int) neededSet(task).stream().filter(t -> fate(t) == 3).count();
    }

    int executed() {
        return executed;
    }

    int stale() {
        int count = 0;
        for (int t = 0; t < kinds.size(); t++) {
            if (!record(t).equals(last.get(t))) {
                count++;
            }
        }
        return count;
    }

    private boolean isNone(int task) {
        return task < 0 || task >= kinds.size();
    }

    private List<Integer> values(int task) {
        List<Integer> values = new ArrayList<>();
        for (int input : inputs.get(task)) {
            values.add(input < 8 ? contents[input] : fresh(input - 8));
        }
        return values;
    }

    private List<Integer> record(int task) {
        List<Integer> record = new ArrayList<>(List.of(kinds.get(task), constants.get(task)));
        record.addAll(values(task));
        return record;
    }

    private int fate(int task) {
        List<Integer> record = record(task);
        if (record.equals(last.get(task))) {
            return 1;
        }
        return store.getOrDefault(task, Set.of()).contains(record) ? 2 : 3;
    }

    private TreeSet<Integer> neededSet(int task) {
        TreeSet<Integer> set = new TreeSet<>();
        set.add(task);
        for (int input : inputs.get(task)) {
            if (input >= 8) {
                set.addAll(neededSet(input - 8));
            }
        }
        return set;
    }
}
