/** Promises 18 (rush), 19 (rushed), by cases reckoned by hand. */
public final class RushTest {
    private static final Check check = new Check();

    public static void main(String[] args) {
        limits();
        shortestWayOnly();
        leastNumber();
        turnBackAtAShutDoor();
        noWay();
        safeRoomsKeepTheirPeople();
        longRush();
        check.end();
    }

    private static void limits() {
        ExitFlows x = new ExitFlows();
        check.due("rush(-1)", x.rush(-1), -2);
        check.due("rush(201)", x.rush(201), -2);
        check.due("rush(200)", x.rush(200), 0);
        check.due("rushed, nobody", x.rushed(), 0);
        x.room(3, 8, 1);
        check.due("rushed, nothing safe", x.rushed(), -6);
        x.safe(3, 1);
        check.due("rush(0), all safe", x.rush(0), 8);
        check.due("rushed, all safe", x.rushed(), 0);
    }

    private static void shortestWayOnly() {
        // All take the narrow short passage, though the wide one is only a tick longer.
        ExitFlows x = Say.plan("ab62ab11", "b");
        x.room(0, 4, 1);
        int[] due = {0, 1, 2, 3, 4, 4};
        for (int tick = 0; tick < due.length; tick++) {
            check.due("rush(" + tick + ")", x.rush(tick), due[tick]);
        }
        check.due("rushed", x.rushed(), 4);
        check.due("last is less", x.last(), 2);
    }

    private static void leastNumber() {
        // Ways of one length, by c and straight: the least number goes, though it be narrow.
        ExitFlows x = Say.plan("ac11ab62cb11", "b");
        x.room(0, 3, 1);
        check.due("rush(2)", x.rush(2), 1);
        check.due("rushed", x.rushed(), 4);
        ExitFlows y = Say.plan("ab62ac11cb11", "b");
        y.room(0, 3, 1);
        check.due("rushed the other way round", y.rushed(), 2);
    }

    private static void turnBackAtAShutDoor() {
        // By c it is short, but the second door shuts at tick 1: who is in c then goes the long way.
        ExitFlows x = Say.plan("ac11cb11cd11db34ab14", "b");
        x.room(0, 2, 1);
        check.due("rushed, all open", x.rushed(), 3);
        x.shut(1, 1);
        check.due("rush(4)", x.rush(4), 0);
        check.due("rush(5)", x.rush(5), 1);
        check.due("rushed", x.rushed(), 6);
        x.shut(1, 2);
        check.due("rush(2), shut at 2", x.rush(2), 1);
        check.due("rush(6), shut at 2", x.rush(6), 1);
        check.due("rushed, shut at 2", x.rushed(), 7);
        x.shut(1, 0);
        check.due("rush(4), shut at 0", x.rush(4), 1);
        check.due("rushed, shut at 0", x.rushed(), 5);
    }

    private static void noWay() {
        ExitFlows x = Say.plan("ab14", "b");
        x.room(0, 3, 1);
        x.shut(0, 2);
        check.due("rush(200)", x.rush(200), 2);
        check.due("rush(5)", x.rush(5), 2);
        check.due("rush(4)", x.rush(4), 1);
        check.due("rushed", x.rushed(), -6);
        // Without a way nobody goes even a step: c stays as near as it was when a way opens no more.
        ExitFlows y = Say.plan("cd11", "b");
        y.room(2, 1, 1);
        y.room(1, 1, 1);
        check.due("rush(200) without a way", y.rush(200), 1);
        y.safe(3, 1);
        check.due("rushed to another room", y.rushed(), 1);
    }

    private static void safeRoomsKeepTheirPeople() {
        ExitFlows x = Say.plan("ab11bc11", "bc");
        x.room(0, 2, 1);
        x.room(1, 5, 1);
        check.due("rush(0)", x.rush(0), 5);
        check.due("rush(1)", x.rush(1), 6);
        check.due("rushed", x.rushed(), 2);
    }

    private static void longRush() {
        ExitFlows x = Say.plan("ab64bc64cd64de64ef14", "f");
        for (int room = 0; room < 5; room++) {
            x.room(room, 30, 99);
        }
        check.due("rushed", x.rushed(), 153);
        check.due("rush(152)", x.rush(152), 149);
        check.due("rush(153)", x.rush(153), 150);
        check.due("rush(60)", x.rush(60), 57);
        x.shut(4, 60);
        check.due("rush(63), shut at 60", x.rush(63), 60);
        check.due("rush(200), shut at 60", x.rush(200), 60);
    }
}
