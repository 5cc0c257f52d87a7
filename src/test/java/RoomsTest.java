/** Promises 1 (a new object), 2 (room), 3 (safe), 11 (told). */
public final class RoomsTest {
    private static final Check check = new Check();

    public static void main(String[] args) {
        newObject();
        room();
        safe();
        told();
        check.end();
    }

    private static void newObject() {
        ExitFlows x = new ExitFlows();
        for (int room = 0; room < 6; room++) {
            check.due("new: people", x.told(room, 0), 0);
            check.due("new: area", x.told(room, 1), 10);
            check.due("new: safe", x.told(room, 2), 0);
            check.due("new: crowd", x.told(room, 3), 0);
            check.due("new: pace", x.told(room, 4), Float.floatToIntBits(1.34f));
        }
        for (int what = 0; what < 6; what++) {
            check.due("new: count(" + what + ")", x.count(what), 0);
        }
        check.due("new: of", x.of(0, 0), -1);
        check.due("new: fault", x.fault(), -6);
        check.due("new: wipe", x.wipe(), 0);
        check.due("new: restore(0)", x.restore(0), -3);
        check.due("new: restore(1)", x.restore(1), -3);
        check.due("new: last", x.last(), 0);
        check.due("new: rushed", x.rushed(), 0);
    }

    private static void room() {
        ExitFlows x = new ExitFlows();
        check.due("room", x.room(0, 30, 99), 0);
        check.due("room again", x.room(0, 0, 1), 30);
        check.due("room once more", x.room(0, 7, 50), 0);
        check.due("the last room", x.room(5, 4, 3), 0);
        check.due("people", x.told(0, 0), 7);
        check.due("area", x.told(0, 1), 50);
        check.due("people of the last", x.told(5, 0), 4);
        check.due("people of another", x.told(1, 0), 0);
        String before = Say.state(x);
        check.due("room -1", x.room(-1, 1, 1), -1);
        check.due("room 6", x.room(6, 1, 1), -1);
        check.due("room 6, people outside", x.room(6, 31, 0), -1);
        check.due("people -1", x.room(0, -1, 5), -2);
        check.due("people 31", x.room(0, 31, 5), -2);
        check.due("area 0", x.room(0, 5, 0), -2);
        check.due("area 100", x.room(0, 5, 100), -2);
        check.that("refused rooms change nothing", Say.state(x).equals(before));
    }

    private static void safe() {
        ExitFlows x = new ExitFlows();
        check.due("safe(0, 1)", x.safe(0, 1), 1);
        check.due("safe(5, 1)", x.safe(5, 1), 2);
        check.due("safe(5, 1) again", x.safe(5, 1), 2);
        check.due("set", x.count(4), 33);
        check.due("told 0", x.told(0, 2), 1);
        check.due("told 1", x.told(1, 2), 0);
        check.due("safe(0, 0)", x.safe(0, 0), 1);
        check.due("safe(0, 0) again", x.safe(0, 0), 1);
        check.due("told 0 then", x.told(0, 2), 0);
        String before = Say.state(x);
        check.due("room -1", x.safe(-1, 1), -1);
        check.due("room 6", x.safe(6, 2), -1);
        check.due("is 2", x.safe(1, 2), -2);
        check.due("is -1", x.safe(5, -1), -2);
        check.that("refused safe changes nothing", Say.state(x).equals(before));
        for (int room = 0; room < 6; room++) {
            x.safe(room, 1);
        }
        check.due("all safe", x.count(4), 63);
        check.due("none safe by halves", x.safe(3, 0), 5);
    }

    private static void told() {
        ExitFlows x = new ExitFlows();
        for (int people = 0; people <= 30; people++) {
            for (int area = 1; area <= 99; area++) {
                x.room(2, people, area);
                float crowd = (float) people / (float) area;
                float slower = 0.25f * crowd;
                float pace = 1.34f - slower;
                if (pace < 0.1f) {
                    pace = 0.1f;
                }
                String of = people + " on " + area;
                check.due("crowd of " + of, x.told(2, 3), Float.floatToIntBits(crowd));
                check.due("pace of " + of, x.told(2, 4), Float.floatToIntBits(pace));
            }
        }
        check.due("room -1", x.told(-1, 0), -1);
        check.due("room 6", x.told(6, 9), -1);
        check.due("what -1", x.told(0, -1), -2);
        check.due("what 5", x.told(0, 5), -2);
    }
}
