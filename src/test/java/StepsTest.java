import java.util.ArrayList;
import java.util.HashSet;
import java.util.List;
import java.util.Random;
import java.util.Set;

/** OUT in small plans, by going through all that some few people can do, tick by tick, without any network. */
public final class StepsTest {
    private static final Check check = new Check();

    public static void main(String[] args) {
        for (int seed = 0; seed < 400; seed++) {
            smallPlan(new Random(seed), seed);
        }
        check.end();
    }

    private static void smallPlan(Random random, int seed) {
        ExitFlows x = new ExitFlows();
        int[][] passages = new int[3 + random.nextInt(3)][];
        for (int n = 0; n < passages.length; n++) {
            int from = random.nextInt(4);
            int to = (from + 1 + random.nextInt(3)) % 4;
            int shut = random.nextInt(3) == 0 ? random.nextInt(6) : -1;
            passages[n] = new int[] {from, to, 1 + random.nextInt(2), 1 + random.nextInt(2), shut};
            x.passage(from, to, passages[n][2], passages[n][3]);
            x.shut(n, shut);
        }
        int safe = random.nextInt(4);
        x.safe(safe, 1);
        List<Integer> people = new ArrayList<>();
        int[] in = new int[4];
        for (int n = 0; n < 3; n++) {
            int room = random.nextInt(4);
            people.add(room);
            in[room]++;
            x.room(room, in[room], 1);
        }
        Set<List<Integer>> states = new HashSet<>(Set.of(people));
        for (int tick = 0; tick <= 6; tick++) {
            int most = 0;
            for (List<Integer> state : states) {
                int out = 0;
                for (int place : state) {
                    out += place == safe ? 1 : 0;
                }
                most = Math.max(most, out);
            }
            check.due("plan " + seed + ": out(" + tick + ")", x.out(tick), most);
            Set<List<Integer>> next = new HashSet<>();
            for (List<Integer> state : states) {
                go(state, 0, new ArrayList<>(), new int[passages.length], passages, safe, tick, next);
            }
            states = next;
        }
    }

    /** A place is a room, or 100 and 10 for each tick still to go and the room that is gone to. */
    private static void go(List<Integer> state, int one, List<Integer> then, int[] gone, int[][] passages, int safe,
            int tick, Set<List<Integer>> next) {
        if (one == state.size()) {
            next.add(new ArrayList<>(then));
            return;
        }
        int place = state.get(one);
        put(state, one, then, gone, passages, safe, tick, next, place >= 100 ? arrived(place - 10) : place);
        if (place >= 100 || place == safe) {
            return;
        }
        for (int n = 0; n < passages.length; n++) {
            int[] p = passages[n];
            if (p[0] == place && gone[n] < p[2] && (p[4] < 0 || tick < p[4])) {
                gone[n]++;
                put(state, one, then, gone, passages, safe, tick, next, arrived(100 + 10 * (p[3] - 1) + p[1]));
                gone[n]--;
            }
        }
    }

    private static int arrived(int place) {
        return place >= 110 ? place : place - 100;
    }

    private static void put(List<Integer> state, int one, List<Integer> then, int[] gone, int[][] passages, int safe,
            int tick, Set<List<Integer>> next, int place) {
        then.add(place);
        go(state, one + 1, then, gone, passages, safe, tick, next);
        then.remove(then.size() - 1);
    }
}
