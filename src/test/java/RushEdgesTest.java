/** Each sentence of "Terms" 3 and of the promises 18 and 19 that names an edge, with a test of its own. */
public final class RushEdgesTest {
    private static final int OUTSIDE = -2, NONE = -6;
    private static final Check check = new Check();

    public static void main(String[] args) {
        fromEachRoomAllAtOnce();
        asManyAsCan();
        intoOnePassage();
        theLeastLengthsAdded();
        toAnySafeRoom();
        ofSeveralTheLeastNumber();
        notShutAtThatTick();
        shutLaterCountsTillThen();
        noWayAllWait();
        notFromSafeRooms();
        ticks0To200();
        rushedIsLeast();
        rushedBeyond60();
        passagesThatShutInTurn();
        rushedNone();
        check.end();
    }

    private static ExitFlows plan(String passages, String safe, int inA) {
        ExitFlows x = Say.plan(passages, safe);
        x.room(0, inA, 1);
        return x;
    }

    private static void rows(ExitFlows x, String of, int... due) {
        for (int tick = 0; tick < due.length; tick++) {
            check.due(of + ": rush(" + tick + ")", x.rush(tick), due[tick]);
        }
    }

    // ---- Terms 3

    private static void fromEachRoomAllAtOnce() {
        check.about("Terms 3: at each TICK from each ROOM that is not SAFE, all at once");
        ExitFlows x = plan("ab11bc11", "c", 2);
        x.room(1, 1, 1);
        rows(x, "two rooms", 0, 1, 2, 3);
        // Who comes into a room goes on at that same tick, behind nobody who is there.
        ExitFlows y = plan("ac11bc11cd21", "d", 3);
        y.room(1, 3, 1);
        rows(y, "two rooms meet", 0, 0, 2, 4, 6);
    }

    private static void asManyAsCan() {
        check.about("Terms 3: as many of those that are there as can (WIDTH)");
        for (int width = 1; width <= 6; width++) {
            ExitFlows x = plan("ab" + width + "1", "b", 7);
            for (int tick = 0; tick <= 8; tick++) {
                check.due("width " + width + ", rush(" + tick + ")", x.rush(tick), Math.min(7, width * tick));
            }
        }
    }

    private static void intoOnePassage() {
        check.about("Terms 3: go into one PASSAGE");
        ExitFlows x = plan("ab11ab11", "b", 3);
        rows(x, "two alike", 0, 1, 2, 3);
        check.due("if all go as is best", x.last(), 2);
    }

    private static void theLeastLengthsAdded() {
        check.about("Terms 3: a way of the least LENGTHS, added");
        // By b and c 3 in all, though of three passages; straight 4.
        ExitFlows x = plan("ad64ab11bc11cd11", "d", 2);
        rows(x, "three short ones", 0, 0, 0, 1, 2);
        // By b 2 + 3 in all; straight 4, and the first passage of the other way is the shorter.
        ExitFlows y = plan("ab12bc13ac14", "c", 2);
        rows(y, "one long one", 0, 0, 0, 0, 1, 2);
    }

    private static void toAnySafeRoom() {
        check.about("Terms 3: to any SAFE ROOM");
        ExitFlows x = plan("ab14ac12", "b", 1);
        check.due("to b", x.rushed(), 4);
        x.safe(2, 1);
        check.due("to c, which is nearer", x.rushed(), 2);
        x.safe(1, 0);
        check.due("to c alone", x.rushed(), 2);
    }

    private static void ofSeveralTheLeastNumber() {
        check.about("Terms 3: of several the least number");
        rows(plan("ab12ab62", "b", 2), "the narrow one is the first", 0, 0, 1, 2);
        rows(plan("ab62ab12", "b", 2), "the wide one is the first", 0, 0, 2, 2);
        rows(plan("ab64ab12ab62", "b", 2), "a longer one is before them", 0, 0, 1, 2);
        // Number 0 is later on one of the ways; what counts is the passage with which a way begins.
        rows(plan("cb11ab62ac11", "b", 2), "by c begins with number 2", 0, 0, 2, 2);
        rows(plan("ac11ab62cb11", "b", 2), "by c begins with number 0", 0, 0, 1, 2);
    }

    private static void notShutAtThatTick() {
        check.about("Terms 3: only PASSAGES that are not SHUT at that TICK count for ways");
        ExitFlows x = plan("ab11ab12", "b", 3);
        x.shut(0, 0);
        rows(x, "shut from 0 on", 0, 0, 1, 2, 3);
        x.shut(0, 1);
        rows(x, "shut from 1 on", 0, 1, 1, 2, 3);
        x.shut(0, 2);
        rows(x, "shut from 2 on", 0, 1, 2, 2, 3);
        x.shut(0, 3);
        rows(x, "shut from 3 on", 0, 1, 2, 3, 3);
        // A passage farther on that is shut makes the way before it none too.
        ExitFlows y = plan("ac11cb11ad13db11", "b", 1);
        check.due("by c", y.rushed(), 2);
        y.shut(1, 0);
        check.due("c's way is shut", y.rushed(), 4);
    }

    private static void shutLaterCountsTillThen() {
        check.about("Terms 3: a PASSAGE that is SHUT later counts till then");
        // Everybody runs to c, though the door behind it is shut before they are there; then they come back.
        ExitFlows x = plan("ac21cb21ca22ab64", "b", 2);
        check.due("by c", x.rushed(), 2);
        x.shut(1, 1);
        rows(x, "c's door shut from 1 on", 0, 0, 0, 0, 0, 0, 0, 2);
        check.due("there and back", x.rushed(), 7);
        x.shut(3, 3);
        check.due("a's door is shut when they are back", x.rush(200), 0);
        x.shut(3, 4);
        check.due("a's door is shut a tick later", x.rush(200), 2);
    }

    private static void noWayAllWait() {
        check.about("Terms 3: If there is no way, all wait");
        ExitFlows x = plan("ab11", "c", 5);
        check.due("rush(200)", x.rush(200), 0);
        x.safe(2, 0);
        check.due("nothing is safe", x.rush(200), 0);
        // The door shuts at 2: who is not through waits, also in the room before.
        ExitFlows y = plan("ab11bc11", "c", 3);
        y.shut(1, 2);
        rows(y, "the second shut from 2 on", 0, 0, 1, 1, 1);
        check.due("rush(200)", y.rush(200), 1);
        check.due("rushed()", y.rushed(), NONE);
    }

    private static void notFromSafeRooms() {
        check.about("Terms 3: from each ROOM that is not SAFE");
        ExitFlows x = plan("ba11bc11", "bc", 0);
        x.room(1, 4, 1);
        rows(x, "they stay", 4, 4, 4);
        ExitFlows y = plan("ab11ba11", "ab", 6);
        rows(y, "both are safe", 6, 6, 6);
    }

    // ---- Promises 18 and 19

    private static void ticks0To200() {
        check.about("18: OUTSIDE: it is not 0 to 200");
        ExitFlows x = plan("ab14", "b", 30);
        x.room(1, 2, 1);
        for (int tick = -3; tick <= 204; tick++) {
            boolean is = tick >= 0 && tick <= 200;
            check.due("rush(" + tick + ")", x.rush(tick), is ? 2 + Math.min(30, Math.max(0, tick - 3)) : OUTSIDE);
        }
    }

    private static void rushedIsLeast() {
        check.about("19: the least TICK at which all PEOPLE are in SAFE ROOMS");
        ExitFlows x = plan("ab13", "b", 0);
        check.due("nobody", x.rushed(), 0);
        x.room(1, 30, 1);
        check.due("all are there", x.rushed(), 0);
        for (int people = 1; people <= 30; people++) {
            x.room(0, people, 1);
            check.due(people + " people", x.rushed(), people + 2);
        }
        x.safe(0, 1);
        check.due("all are safe", x.rushed(), 0);
        check.due("nobody and nothing safe", plan("", "", 0).rushed(), 0);
    }

    private static void rushedBeyond60() {
        check.about("19: 0 to 200");
        ExitFlows x = Say.plan("ab64bc64cd64de64ef14", "f");
        for (int room = 0; room < 5; room++) {
            x.room(room, 30, 1);
        }
        check.due("150 one by one", x.rushed(), 153);
        check.due("rush(152)", x.rush(152), 149);
        check.due("rush(153)", x.rush(153), 150);
        check.due("rush(200)", x.rush(200), 150);
        check.due("there is no LAST", x.last(), NONE);
        x.room(4, 0, 1);
        x.room(3, 0, 1);
        x.room(2, 0, 1);
        check.due("sixty, from b eight ticks off e", x.rushed(), 75);
        x.shut(4, 60);
        check.due("shut from 60 on", x.rushed(), NONE);
        check.due("who went in before", x.rush(200), 48);
    }

    /** The longest rush that a search by trial found, time and again: 200 itself, it seems, is never the answer. */
    private static void passagesThatShutInTurn() {
        check.about("19: 0 to 200: the longest known");
        ExitFlows x = Say.plan("ab62da64ce64bc14bc61ed64bf12cf11af34", "f");
        for (int room = 0; room < 6; room++) {
            x.room(room, 30, 1);
        }
        x.shut(7, 25);
        x.shut(4, 37);
        x.shut(6, 60);
        check.due("rushed()", x.rushed(), 183);
        check.due("rush(25), the last one out by the first door", x.rush(25), 55);
        check.due("rush(40), on the way to the second", x.rush(40), 55);
        check.due("rush(41), the first one out by the second", x.rush(41), 56);
        check.due("rush(61), the last one out by the second", x.rush(61), 76);
        check.due("rush(79), on the way to the third", x.rush(79), 76);
        check.due("rush(80), the first one out by the third", x.rush(80), 77);
        check.due("rush(182)", x.rush(182), 179);
        check.due("rush(183)", x.rush(183), 180);
        check.due("rush(200)", x.rush(200), 180);
    }

    private static void rushedNone() {
        check.about("19: NONE: there is none such");
        ExitFlows x = plan("ab11", "", 1);
        check.due("nothing is safe", x.rushed(), NONE);
        x.safe(2, 1);
        check.due("no way", x.rushed(), NONE);
        x.safe(1, 1);
        check.due("a way", x.rushed(), 1);
        x.shut(0, 0);
        check.due("shut", x.rushed(), NONE);
        x.room(0, 0, 1);
        check.due("nobody is there", x.rushed(), 0);
        // One who has no way is enough.
        ExitFlows y = plan("ab61", "b", 6);
        y.room(3, 1, 1);
        check.due("one is left", y.rushed(), NONE);
        check.due("rush(200)", y.rush(200), 6);
    }
}
