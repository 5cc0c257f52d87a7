/** Promises 13 (out), 14 (last), 15 (helps), 16 (needed), 17 (door), by cases reckoned by hand. */
public final class OutTest {
    private static final Check check = new Check();

    public static void main(String[] args) {
        out();
        safeRoomsKeepTheirPeople();
        takingBackAStep();
        shutMidway();
        lastAtTheEdge();
        helps();
        needed();
        door();
        check.end();
    }

    private static void out() {
        ExitFlows x = Say.plan("ac21cb13", "b");
        x.room(0, 5, 10);
        x.room(1, 4, 10);
        x.room(2, 1, 10);
        int[] due = {4, 4, 4, 5, 6, 7, 8, 9, 10, 10};
        for (int tick = 0; tick < due.length; tick++) {
            check.due("out(" + tick + ")", x.out(tick), due[tick]);
        }
        check.due("out(60)", x.out(60), 10);
        check.due("out(61)", x.out(61), -2);
        check.due("out(-1)", x.out(-1), -2);
        check.due("last", x.last(), 8);
        x.safe(1, 0);
        check.due("out with nothing safe", x.out(60), 0);
        check.due("last with nothing safe", x.last(), -6);
    }

    private static void safeRoomsKeepTheirPeople() {
        // The way from a to c leads through b, which is safe: who comes there stays there.
        ExitFlows x = Say.plan("ab11bc11", "bc");
        x.room(0, 1, 1);
        check.due("out(1)", x.out(1), 1);
        check.due("out(0)", x.out(0), 0);
        x.safe(1, 0);
        check.due("out(1), b not safe", x.out(1), 0);
        check.due("out(2), b not safe", x.out(2), 1);
    }

    private static void takingBackAStep() {
        // a can go by c or by d, b by c alone: the best is not found unless a's first choice is taken back.
        ExitFlows x = Say.plan("ac11bc11cf11ad11df12", "f");
        x.room(0, 1, 1);
        x.room(1, 1, 1);
        check.due("out(1)", x.out(1), 0);
        check.due("out(2)", x.out(2), 1);
        check.due("out(3)", x.out(3), 2);
        x.shut(2, 2);
        check.due("out(3), c's way shut from 2 on", x.out(3), 2);
        x.shut(3, 0);
        check.due("out(3), d's way shut too", x.out(3), 1);
        check.due("last then", x.last(), -6);
    }

    private static void shutMidway() {
        ExitFlows x = Say.plan("ab24", "b");
        x.room(0, 6, 1);
        x.shut(0, 3);
        check.due("who went in before it is shut comes through", x.out(6), 6);
        check.due("last", x.last(), 6);
        x.shut(0, 2);
        check.due("out(60), shut a tick earlier", x.out(60), 4);
        check.due("last, shut a tick earlier", x.last(), -6);
        x.shut(0, 0);
        check.due("out(60), never open", x.out(60), 0);
    }

    private static void lastAtTheEdge() {
        ExitFlows x = Say.plan("ab11ba11bc11cd11de11ef11", "f");
        x.room(0, 30, 1);
        x.room(1, 26, 1);
        check.due("last is 59", x.last(), 59);
        x.room(1, 27, 1);
        check.due("last is 60", x.last(), 60);
        check.due("out(59)", x.out(59), 56);
        x.room(1, 28, 1);
        check.due("last would be 61", x.last(), -6);
        check.due("nothing helps, as all go through four alike", x.helps(), 0);
        check.due("needed without last", x.needed(), -6);
        check.due("door without last", x.door(0), -6);
        check.due("door of none, without last", x.door(6), -1);
    }

    private static void helps() {
        ExitFlows x = Say.plan("ab61", "b");
        x.room(0, 7, 1);
        check.due("last", x.last(), 2);
        check.due("of 6: 7", x.helps(), 1);
        check.due("the width stays", x.of(0, 2), 6);
        x.room(0, 8, 1);
        check.due("7 are not enough", x.helps(), 0);
        ExitFlows y = Say.plan("ab11ab11", "b");
        y.room(0, 30, 1);
        y.shut(0, 14);
        y.shut(1, 15);
        check.due("no last", y.last(), -6);
        check.due("each makes one", y.helps(), 3);
        y.shut(0, 0);
        check.due("only the second is open", y.helps(), 2);
        y.shut(1, 14);
        check.due("28 of 30", y.helps(), 0);
        ExitFlows z = Say.plan("ab11", "b");
        check.due("nobody is there", z.helps(), 0);
        z.room(1, 9, 1);
        check.due("all are safe", z.helps(), 0);
    }

    private static void needed() {
        ExitFlows x = Say.plan("ab11ab12ab14", "b");
        x.room(0, 3, 1);
        check.due("last", x.last(), 2);
        check.due("needed", x.needed(), 3);
        check.due("nothing is shut by it", x.count(3), 0);
        x.room(0, 1, 1);
        check.due("needed for one", x.needed(), 1);
        x.widen(1, 2);
        x.room(0, 0, 1);
        check.due("needed for nobody", x.needed(), 0);
        x.room(1, 5, 1);
        check.due("all are safe", x.needed(), 0);
        ExitFlows y = Say.plan("ab21ab21", "b");
        y.room(0, 2, 1);
        check.due("either would do", y.needed(), 0);
        y.shut(1, 0);
        check.due("one is shut", y.needed(), 1);
        y.shut(0, 0);
        check.due("both are shut", y.needed(), -6);
    }

    private static void door() {
        ExitFlows x = Say.plan("ab12ab11", "b");
        x.room(0, 5, 1);
        check.due("last", x.last(), 3);
        check.due("door(0)", x.door(0), 2);
        check.due("door(1)", x.door(1), 3);
        check.due("nothing is shut by it", x.count(3), 0);
        x.shut(0, 50);
        check.due("door(0), shut at 50", x.door(0), 2);
        x.shut(0, 1);
        check.due("last, shut at 1", x.last(), 4);
        check.due("door(0), in place of 1", x.door(0), 1);
        check.due("door(1), the other shut at 1", x.door(1), 4);
        check.due("door(2)", x.door(2), -1);
        check.due("door(-1)", x.door(-1), -1);
        x.room(0, 0, 1);
        check.due("door, nobody is there", x.door(1), 0);
        ExitFlows y = Say.plan("ab11bc11", "b");
        y.room(0, 30, 1);
        check.due("a long door", y.door(0), 30);
        check.due("a door from where it is safe", y.door(1), 0);
        ExitFlows z = Say.plan("ab11", "b");
        z.room(0, 30, 1);
        z.shut(0, 30);
        check.due("just in time", z.door(0), 30);
        z.shut(0, 29);
        check.due("there is no last", z.door(0), -6);
    }
}
