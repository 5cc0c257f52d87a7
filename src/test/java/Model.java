import java.util.ArrayDeque;
import java.util.ArrayList;
import java.util.Arrays;
import java.util.List;

/**
 * The document again, by other means than the class: OUT by a network drawn anew for each tick and searched
 * forwards, breadth first; helps, needed and door by trying each change; RUSH person by person.
 */
final class Model {
    static final class Passage {
        int from, to, width, length, shut = -6;

        Passage(int from, int to, int width, int length) {
            this.from = from;
            this.to = to;
            this.width = width;
            this.length = length;
        }

        Passage copy() {
            Passage other = new Passage(from, to, width, length);
            other.shut = shut;
            return other;
        }

        boolean isOpen(int tick) {
            return shut == -6 || tick < shut;
        }
    }

    private int[] people = new int[6];
    private int[] area = {10, 10, 10, 10, 10, 10};
    private boolean[] safe = new boolean[6];
    private List<Passage> passages = new ArrayList<>();
    private final StringBuilder pad = new StringBuilder();
    private final Model[] images = new Model[2];

    private static boolean in(int number, int least, int most) {
        return least <= number && number <= most;
    }

    private boolean isPassage(int passage) {
        return in(passage, 0, passages.size() - 1);
    }

    private int all() {
        return Arrays.stream(people).sum();
    }

    int call(String name, int... a) {
        switch (name) {
            case "room": return room(a[0], a[1], a[2]);
            case "safe": return safe(a[0], a[1]);
            case "passage": return passage(a[0], a[1], a[2], a[3]);
            case "widen": return widen(a[0], a[1]);
            case "shut": return shut(a[0], a[1]);
            case "say": return say(a[0]);
            case "wipe": return wipe();
            case "fault": return fault();
            case "read": return read();
            case "told": return told(a[0], a[1]);
            case "of": return of(a[0], a[1]);
            case "out": return in(a[0], 0, 60) ? most(a[0]) : -2;
            case "last": return last();
            case "helps": return helps();
            case "needed": return needed();
            case "door": return door(a[0]);
            case "rush": return in(a[0], 0, 200) ? rush()[a[0]] : -2;
            case "rushed": return rushed();
            case "image": return image(a[0]);
            case "restore": return restore(a[0]);
            case "count": return count(a[0]);
            default: throw new IllegalArgumentException(name);
        }
    }

    private int room(int room, int number, int wide) {
        if (!in(room, 0, 5)) return -1;
        if (!in(number, 0, 30) || !in(wide, 1, 99)) return -2;
        int before = people[room];
        people[room] = number;
        area[room] = wide;
        return before;
    }

    private int safe(int room, int is) {
        if (!in(room, 0, 5)) return -1;
        if (is != 0 && is != 1) return -2;
        safe[room] = is == 1;
        int number = 0;
        for (boolean one : safe) number += one ? 1 : 0;
        return number;
    }

    private int passage(int from, int to, int width, int length) {
        if (!in(from, 0, 5) || !in(to, 0, 5)) return -1;
        if (from == to || !in(width, 1, 6) || !in(length, 1, 4)) return -2;
        if (passages.size() == 10) return -4;
        passages.add(new Passage(from, to, width, length));
        return passages.size() - 1;
    }

    private int widen(int passage, int width) {
        if (!isPassage(passage)) return -1;
        if (!in(width, 1, 6)) return -2;
        int before = passages.get(passage).width;
        passages.get(passage).width = width;
        return before;
    }

    private int shut(int passage, int tick) {
        if (!isPassage(passage)) return -1;
        if (!in(tick, -1, 60)) return -2;
        int before = passages.get(passage).shut;
        passages.get(passage).shut = tick == -1 ? -6 : tick;
        return before;
    }

    private int say(int sign) {
        if (!in(sign, 33, 126)) return -2;
        if (pad.length() == 40) return -4;
        return pad.append((char) sign).length();
    }

    private int wipe() {
        int before = pad.length();
        pad.setLength(0);
        return before;
    }

    private int fault() {
        String text = pad.toString();
        for (int size = 0; size <= text.length(); size++) {
            String whole = "(([a-f])(?!\\2)[a-f][1-6][1-4])*";
            String begun = whole + "([a-f]|([a-f])(?!\\4)[a-f][1-6]?)?";
            if (!text.substring(0, size).matches(begun)) return size - 1;
            if (size == text.length()) return text.matches(whole) ? -6 : size;
        }
        throw new IllegalStateException();
    }

    private int read() {
        if (fault() != -6) return -7;
        if (passages.size() + pad.length() / 4 > 10) return -4;
        for (int n = 0; n < pad.length(); n += 4) {
            passages.add(new Passage(pad.charAt(n) - 'a', pad.charAt(n + 1) - 'a', pad.charAt(n + 2) - '0',
                pad.charAt(n + 3) - '0'));
        }
        pad.setLength(0);
        return passages.size();
    }

    private int told(int room, int what) {
        if (!in(room, 0, 5)) return -1;
        if (!in(what, 0, 4)) return -2;
        float crowd = (float) people[room] / (float) area[room];
        float pace = 1.34f - 0.25f * crowd;
        return new int[] {people[room], area[room], safe[room] ? 1 : 0, Float.floatToIntBits(crowd),
            Float.floatToIntBits(pace < 0.1f ? 0.1f : pace)}[what];
    }

    private int of(int passage, int what) {
        if (!isPassage(passage)) return -1;
        if (!in(what, 0, 4)) return -2;
        Passage p = passages.get(passage);
        return new int[] {p.from, p.to, p.width, p.length, p.shut}[what];
    }

    /** OUT by a tick. */
    int most(int tick) {
        Network network = new Network(6 * (tick + 1) + 2);
        int source = 6 * (tick + 1);
        int sink = source + 1;
        for (int room = 0; room < 6; room++) {
            network.arc(source, room, people[room]);
            for (int t = 0; t <= tick; t++) {
                if (safe[room]) network.arc(6 * t + room, sink, 1000);
                else if (t < tick) network.arc(6 * t + room, 6 * (t + 1) + room, 1000);
            }
        }
        for (Passage p : passages) {
            for (int t = 0; t + p.length <= tick; t++) {
                if (!safe[p.from] && p.isOpen(t)) network.arc(6 * t + p.from, 6 * (t + p.length) + p.to, p.width);
            }
        }
        return network.flow(source, sink);
    }

    /** Who is safe stays so: OUT never falls as ticks go by, and halving finds LAST. */
    int last() {
        if (most(60) < all()) return -6;
        int low = 0, high = 60;
        while (low < high) {
            int middle = (low + high) / 2;
            if (most(middle) == all()) high = middle;
            else low = middle + 1;
        }
        return low;
    }

    private int helps() {
        int before = last(), set = 0;
        for (int n = 0; n < passages.size(); n++) {
            passages.get(n).width++;
            int then = last();
            passages.get(n).width--;
            if (then != -6 && (before == -6 || then < before)) set |= 1 << n;
        }
        return set;
    }

    private int needed() {
        int before = last(), set = 0;
        if (before == -6) return -6;
        for (int n = 0; n < passages.size(); n++) {
            int then = lastIfShut(n, 0);
            if (then == -6 || then > before) set |= 1 << n;
        }
        return set;
    }

    private int door(int passage) {
        if (!isPassage(passage)) return -1;
        int before = last();
        if (before == -6) return -6;
        for (int tick = 0; tick <= 60; tick++) {
            if (lastIfShut(passage, tick) == before) return tick;
        }
        return -6;
    }

    private int lastIfShut(int passage, int tick) {
        int before = passages.get(passage).shut;
        passages.get(passage).shut = tick;
        int then = last();
        passages.get(passage).shut = before;
        return then;
    }

    /** How many are in safe rooms at each tick 0 to 200. */
    private int[] rush() {
        int all = all();
        int[] at = new int[all];
        int[] since = new int[all];
        int next = 0;
        for (int room = 0; room < 6; room++) {
            for (int n = 0; n < people[room]; n++) at[next++] = room;
        }
        int[] due = new int[201];
        for (int tick = 0; tick <= 200; tick++) {
            int[] gone = new int[passages.size()];
            int[] choice = choices(tick);
            for (int one = 0; one < all; one++) {
                if (since[one] > tick) continue;
                if (safe[at[one]]) {
                    due[tick]++;
                } else if (choice[at[one]] >= 0 && gone[choice[at[one]]] < passages.get(choice[at[one]]).width) {
                    gone[choice[at[one]]]++;
                    Passage p = passages.get(choice[at[one]]);
                    at[one] = p.to;
                    since[one] = tick + p.length;
                }
            }
        }
        return due;
    }

    private int[] choices(int tick) {
        int[][] far = new int[6][6];
        for (int a = 0; a < 6; a++) {
            Arrays.fill(far[a], 10000);
            far[a][a] = 0;
        }
        for (Passage p : passages) {
            if (p.isOpen(tick)) far[p.from][p.to] = Math.min(far[p.from][p.to], p.length);
        }
        for (int c = 0; c < 6; c++) {
            for (int a = 0; a < 6; a++) {
                for (int b = 0; b < 6; b++) far[a][b] = Math.min(far[a][b], far[a][c] + far[c][b]);
            }
        }
        int[] choice = {-1, -1, -1, -1, -1, -1};
        int[] best = {9999, 9999, 9999, 9999, 9999, 9999};
        for (int n = 0; n < passages.size(); n++) {
            Passage p = passages.get(n);
            for (int goal = 0; goal < 6; goal++) {
                if (p.isOpen(tick) && safe[goal] && p.length + far[p.to][goal] < best[p.from]) {
                    best[p.from] = p.length + far[p.to][goal];
                    choice[p.from] = n;
                }
            }
        }
        return choice;
    }

    private int rushed() {
        int[] due = rush();
        for (int tick = 0; tick <= 200; tick++) {
            if (due[tick] == all()) return tick;
        }
        return -6;
    }

    private void become(Model other) {
        people = other.people.clone();
        area = other.area.clone();
        safe = other.safe.clone();
        passages = new ArrayList<>();
        for (Passage p : other.passages) passages.add(p.copy());
    }

    private int image(int k) {
        if (k != 0 && k != 1) return -2;
        images[k] = new Model();
        images[k].become(this);
        return 1;
    }

    private int restore(int k) {
        if (k != 0 && k != 1) return -2;
        if (images[k] == null) return -3;
        become(images[k]);
        return 1;
    }

    private int count(int what) {
        if (!in(what, 0, 5)) return -2;
        int shutOnes = 0, safeOnes = 0;
        for (Passage p : passages) shutOnes += p.shut >= 0 ? 1 : 0;
        for (int room = 0; room < 6; room++) safeOnes += safe[room] ? 1 << room : 0;
        return new int[] {all(), passages.size(), pad.length(), shutOnes, safeOnes,
            (images[0] == null ? 0 : 1) + (images[1] == null ? 0 : 2)}[what];
    }

    private static final class Network {
        private final List<List<int[]>> arcs = new ArrayList<>();

        Network(int nodes) {
            for (int n = 0; n < nodes; n++) arcs.add(new ArrayList<>());
        }

        /** An arc is its end, what is free on it, and the place of its twin. */
        void arc(int from, int to, int free) {
            arcs.get(from).add(new int[] {to, free, arcs.get(to).size()});
            arcs.get(to).add(new int[] {from, 0, arcs.get(from).size() - 1});
        }

        int flow(int source, int sink) {
            int sum = 0;
            while (true) {
                int[][] by = search(source, sink);
                if (by[sink] == null) return sum;
                int free = Integer.MAX_VALUE;
                for (int node = sink; node != source; node = twin(by[node])[0]) free = Math.min(free, by[node][1]);
                for (int node = sink; node != source; ) {
                    int[] arc = by[node];
                    int[] twin = twin(arc);
                    arc[1] -= free;
                    twin[1] += free;
                    node = twin[0];
                }
                sum += free;
            }
        }

        private int[] twin(int[] arc) {
            return arcs.get(arc[0]).get(arc[2]);
        }

        private int[][] search(int source, int sink) {
            int[][] by = new int[arcs.size()][];
            ArrayDeque<Integer> queue = new ArrayDeque<>(List.of(source));
            while (!queue.isEmpty() && by[sink] == null) {
                for (int[] arc : arcs.get(queue.poll())) {
                    if (arc[1] > 0 && arc[0] != source && by[arc[0]] == null) {
                        by[arc[0]] = arc;
                        queue.add(arc[0]);
                    }
                }
            }
            return by;
        }
    }
}
