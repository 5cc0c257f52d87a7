import java.util.Arrays;
import java.util.Random;

/** Runs of calls, always the same ones, each answer held against the model's. */
public final class RandomRunsTest {
    private static final String[] NAMES = {"room", "safe", "passage", "widen", "shut", "say", "wipe", "fault", "read",
        "told", "of", "out", "last", "helps", "needed", "door", "rush", "rushed", "image", "restore", "count"};
    private static final Check check = new Check();

    public static void main(String[] args) {
        for (int seed = 0; seed < 150; seed++) {
            anyCalls(new Random(seed), seed);
        }
        for (int seed = 0; seed < 500; seed++) {
            crowdedPlan(new Random(seed), seed);
        }
        check.end();
    }

    private static int call(ExitFlows x, String name, int... a) {
        switch (name) {
            case "room": return x.room(a[0], a[1], a[2]);
            case "safe": return x.safe(a[0], a[1]);
            case "passage": return x.passage(a[0], a[1], a[2], a[3]);
            case "widen": return x.widen(a[0], a[1]);
            case "shut": return x.shut(a[0], a[1]);
            case "say": return x.say(a[0]);
            case "wipe": return x.wipe();
            case "fault": return x.fault();
            case "read": return x.read();
            case "told": return x.told(a[0], a[1]);
            case "of": return x.of(a[0], a[1]);
            case "out": return x.out(a[0]);
            case "last": return x.last();
            case "helps": return x.helps();
            case "needed": return x.needed();
            case "door": return x.door(a[0]);
            case "rush": return x.rush(a[0]);
            case "rushed": return x.rushed();
            case "image": return x.image(a[0]);
            case "restore": return x.restore(a[0]);
            case "count": return x.count(a[0]);
            default: throw new IllegalArgumentException(name);
        }
    }

    private static void both(ExitFlows x, Model model, String run, String name, int... a) {
        check.due(run + ": " + name + Arrays.toString(a), call(x, name, a), model.call(name, a));
    }

    /** Mostly a number from least to most, at times one just outside. */
    private static int number(Random random, int least, int most) {
        return least - (random.nextInt(40) == 0 ? 1 : 0) + random.nextInt(most - least + 1)
            + (random.nextInt(40) == 0 ? 1 : 0);
    }

    private static void anyCalls(Random random, int seed) {
        ExitFlows x = new ExitFlows();
        Model model = new Model();
        String text = "";
        for (int n = 0; n < 512; n++) {
            String name = NAMES[random.nextInt(NAMES.length)];
            // Slow ones by the model, and those that undo much, come less often.
            if ("helps needed door wipe restore".contains(name) && random.nextInt(3) > 0) {
                name = "say";
            }
            if (text.isEmpty()) {
                text = passageText(random);
            }
            int[] a = arguments(random, name, text.charAt(0));
            if (name.equals("say")) {
                text = text.substring(1);
            }
            both(x, model, "run " + seed + ", call " + n, name, a);
        }
    }

    private static String passageText(Random random) {
        String text = "" + (char) ('a' + random.nextInt(6)) + (char) ('a' + random.nextInt(6))
            + (1 + random.nextInt(6)) + (1 + random.nextInt(4));
        return random.nextInt(20) == 0 ? text.substring(1) : text;
    }

    private static int[] arguments(Random random, String name, char sign) {
        int room = number(random, 0, 5);
        int passage = number(random, 0, random.nextBoolean() ? 3 : 9);
        switch (name) {
            case "room": return new int[] {room, number(random, 0, 30), number(random, 1, 99)};
            case "safe": return new int[] {room, random.nextInt(3) == 0 ? 1 : number(random, 0, 1)};
            case "passage": return new int[] {room, number(random, 0, 5), number(random, 1, 6), number(random, 1, 4)};
            case "widen": return new int[] {passage, number(random, 1, 6)};
            case "shut": return new int[] {passage, number(random, -1, random.nextBoolean() ? 15 : 60)};
            case "say": return new int[] {random.nextInt(40) == 0 ? number(random, 33, 126) : sign};
            case "told": return new int[] {room, number(random, 0, 4)};
            case "of": return new int[] {passage, number(random, 0, 4)};
            case "out": return new int[] {number(random, 0, random.nextBoolean() ? 15 : 60)};
            case "door": return new int[] {passage};
            case "rush": return new int[] {number(random, 0, random.nextBoolean() ? 15 : 200)};
            case "image": return new int[] {number(random, 0, 1)};
            case "restore": return new int[] {number(random, 0, 1)};
            case "count": return new int[] {number(random, 0, 5)};
            default: return new int[0];
        }
    }

    /** Plans in which every room has a way out, so that LAST is mostly there, with some doors that shut. */
    private static void crowdedPlan(Random random, int seed) {
        ExitFlows x = new ExitFlows();
        Model model = new Model();
        String run = "plan " + seed;
        int most = 1 + random.nextInt(30);
        int widest = 1 + random.nextInt(6);
        int nearest = random.nextInt(3);
        for (int room = 0; room < 6; room++) {
            both(x, model, run, "room", room, random.nextInt(most + 1), 1 + random.nextInt(99));
            int to = room < 5 ? Math.min(5, room + 1 + random.nextInt(1 + nearest)) : random.nextInt(5);
            both(x, model, run, "passage", room, to, 1 + random.nextInt(widest), 1 + random.nextInt(4));
        }
        both(x, model, run, "safe", 5, 1);
        if (random.nextInt(3) == 0) {
            both(x, model, run, "safe", random.nextInt(6), 1);
        }
        int more = random.nextInt(5);
        for (int n = 0; n < more; n++) {
            int from = random.nextInt(6);
            both(x, model, run, "passage", from, (from + 1 + random.nextInt(5)) % 6, 1 + random.nextInt(widest),
                1 + random.nextInt(4));
        }
        for (int passage = 0; passage < 6 + more; passage++) {
            if (random.nextInt(5) == 0) {
                both(x, model, run, "shut", passage, random.nextInt(31));
            }
        }
        both(x, model, run, "last");
        both(x, model, run, "helps");
        both(x, model, run, "needed");
        both(x, model, run, "door", random.nextInt(6 + more));
        both(x, model, run, "rushed");
        for (int n = 0; n < 4; n++) {
            both(x, model, run, "out", random.nextInt(61));
            both(x, model, run, "rush", random.nextInt(61));
        }
    }
}
