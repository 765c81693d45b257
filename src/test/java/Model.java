import java.util.ArrayList;
import java.util.Comparator;
import java.util.HashSet;
import java.util.List;
import java.util.Set;
import java.util.TreeMap;

/**
 * A second telling of the document, held differently: bodies hold their values in lists, the free
 * words are a list of chunks, and references are looked for rather than remembered where that can be.
 */
final class Model {
    static final int NO_ROOM = -1;

    private static final class Body {
        int address;
        final List<Integer> values = new ArrayList<>();

        int size() {
            return values.size() + 1;
        }
    }

    private record Chunk(int start, int size) {
    }

    private final int words;
    private final int entries;
    private final int[] registers = new int[8];
    private final TreeMap<Integer, Body> bodies = new TreeMap<>();
    private final TreeMap<Integer, Integer> counts = new TreeMap<>();
    private final List<Chunk> youngestFirst = new ArrayList<>();

    Model(int words, int entries) {
        this.words = words;
        this.entries = entries;
        youngestFirst.add(new Chunk(0, words));
    }

    int instantiate(int r, int type, int n) {
        boolean collected = false;
        if (objects() == entries) {
            collect(type);
            collected = true;
            if (objects() == entries) {
                return NO_ROOM;
            }
        }
        int start = place(n + 2);
        if (start < 0 && !collected) {
            collect(type);
            start = place(n + 2);
        }
        if (start < 0) {
            return NO_ROOM;
        }
        int o = 2;
        while (bodies.containsKey(o)) {
            o += 2;
        }
        Body body = new Body();
        body.address = start;
        body.values.add(type);
        for (int k = 0; k < n; k++) {
            body.values.add(0);
        }
        come(type);
        bodies.put(o, body);
        counts.put(o, 0);
        set(r, o);
        return o;
    }

    int set(int r, int v) {
        int old = registers[r];
        come(v);
        registers[r] = v;
        go(old);
        return old;
    }

    int store(int o, int k, int v) {
        come(v);
        int old = bodies.get(o).values.set(k + 1, v);
        go(old);
        return old;
    }

    void become(int a, int b) {
        Body ofA = bodies.get(a);
        bodies.put(a, bodies.get(b));
        bodies.put(b, ofA);
    }

    int collect(int type) {
        Set<Integer> led = new HashSet<>();
        List<Integer> open = new ArrayList<>();
        open.add(type);
        for (int v : registers) {
            open.add(v);
        }
        while (!open.isEmpty()) {
            int v = open.remove(open.size() - 1);
            if (bodies.containsKey(v) && led.add(v)) {
                open.addAll(bodies.get(v).values);
            }
        }
        List<Integer> taken = new ArrayList<>(bodies.keySet());
        taken.removeAll(led);
        for (int o : taken) {
            remove(o);
        }
        for (int o : counts.keySet()) {
            counts.put(o, Math.min(7, references(o)));
        }
        return taken.size();
    }

    int compact() {
        List<Body> inOrder = new ArrayList<>(bodies.values());
        inOrder.sort(Comparator.comparingInt(b -> b.address));
        int moved = 0;
        int end = 0;
        for (Body body : inOrder) {
            moved += body.address == end ? 0 : 1;
            body.address = end;
            end += body.size();
        }
        youngestFirst.clear();
        if (end < words) {
            youngestFirst.add(new Chunk(end, words - end));
        }
        return moved;
    }

    /** In the form of Picture. */
    String picture() {
        StringBuilder text = new StringBuilder();
        for (int v : registers) {
            text.append(v).append(' ');
        }
        bodies.forEach((o, body) -> {
            text.append("; ").append(o).append(" at ").append(body.address).append(" count ").append(counts.get(o));
            text.append(" class ").append(body.values.get(0)).append(" (");
            for (int i = 1; i < body.values.size(); i++) {
                text.append(i == 1 ? "" : " ").append(body.values.get(i));
            }
            text.append(')');
        });
        TreeMap<Integer, Integer> bySize = new TreeMap<>();
        for (Chunk chunk : youngestFirst) {
            bySize.merge(0, 1, Integer::sum);
            bySize.merge(chunk.size, 1, Integer::sum);
        }
        text.append("; chunks");
        bySize.forEach((size, many) -> text.append(' ').append(many).append('*').append(size));
        text.append("; free ").append(free()).append(", objects ").append(objects());
        return text.toString();
    }

    int register(int r) {
        return registers[r];
    }

    int fetch(int o, int k) {
        return bodies.get(o).values.get(k + 1);
    }

    int type(int o) {
        return bodies.get(o).values.get(0);
    }

    int count(int o) {
        return counts.getOrDefault(o, 0);
    }

    int address(int o) {
        return isObject(o) ? bodies.get(o).address : -1;
    }

    int chunks(int size) {
        return (int) youngestFirst.stream().filter(chunk -> size == 0 || chunk.size == size).count();
    }

    int free() {
        return youngestFirst.stream().mapToInt(Chunk::size).sum();
    }

    int objects() {
        return bodies.size();
    }

    boolean isObject(int v) {
        return bodies.containsKey(v);
    }

    boolean isValue(int v) {
        return v == 0 || (v & 1) == 1 || isObject(v);
    }

    int fields(int o) {
        return bodies.get(o).values.size() - 1;
    }

    /** What a caller can tell to be so whatever was called: counts are right, and words have one owner. */
    String fault() {
        boolean[] owned = new boolean[words];
        for (int o : bodies.keySet()) {
            int count = counts.get(o);
            if (count != 7 && count != references(o)) {
                return "the count of " + o;
            }
        }
        List<Chunk> all = new ArrayList<>(youngestFirst);
        bodies.values().forEach(b -> all.add(new Chunk(b.address, b.size())));
        for (Chunk part : all) {
            for (int w = part.start; w < part.start + part.size; w++) {
                if (owned[w]) {
                    return "two owners of the word " + w;
                }
                owned[w] = true;
            }
        }
        return all.stream().mapToInt(Chunk::size).sum() == words ? "" : "a word without an owner";
    }

    private int references(int o) {
        int found = 0;
        for (int v : registers) {
            found += v == o ? 1 : 0;
        }
        for (Body body : bodies.values()) {
            for (int v : body.values) {
                found += v == o ? 1 : 0;
            }
        }
        return found;
    }

    private int place(int size) {
        for (int i = 0; i < youngestFirst.size(); i++) {
            if (youngestFirst.get(i).size == size) {
                return youngestFirst.remove(i).start;
            }
        }
        Chunk least = null;
        for (Chunk chunk : youngestFirst) {
            if (chunk.size > size && (least == null || chunk.size < least.size)) {
                least = chunk;
            }
        }
        if (least != null) {
            youngestFirst.remove(least);
            youngestFirst.add(0, new Chunk(least.start + size, least.size - size));
            return least.start;
        }
        if (free() < size) {
            return NO_ROOM;
        }
        compact();
        return place(size);
    }

    private void come(int v) {
        counts.computeIfPresent(v, (o, count) -> Math.min(7, count + 1));
    }

    private void go(int v) {
        if (!bodies.containsKey(v) || counts.get(v) == 7) {
            return;
        }
        counts.put(v, counts.get(v) - 1);
        if (counts.get(v) == 0) {
            List<Integer> values = bodies.get(v).values;
            for (int i = 0; i < values.size(); i++) {
                go(values.get(i));
            }
            remove(v);
        }
    }

    private void remove(int o) {
        Body body = bodies.remove(o);
        counts.remove(o);
        youngestFirst.add(0, new Chunk(body.address, body.size()));
    }
}
