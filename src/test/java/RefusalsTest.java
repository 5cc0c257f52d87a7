/** "Terms": the order of refusals, that what is refused changes nothing, and what holds of all answers. */
public final class RefusalsTest {
    private static final int LOW = Integer.MIN_VALUE;
    private static final int HIGH = Integer.MAX_VALUE;
    private static final Check check = new Check();

    public static void main(String[] args) {
        unknownBeforeOutside();
        unknownBeforeOutsideBeforeFull();
        outsideBeforeFull();
        faultBeforeFull();
        outsideBeforeState();
        noneOnlyWhereNoRefusalFits();
        refusedChangesNothing();
        toldAsThingsAreThen();
        askingChangesNothing();
        setsAreNumbers();
        numbersThatWrapAround();
        theLastOf512Calls();
        check.end();
    }

    private static void unknownBeforeOutside() {
        check.about("UNKNOWN comes before OUTSIDE");
        ExitFlows x = Say.plan("ab11", "b");
        check.due("room(6, 31, 0)", x.room(6, 31, 0), -1);
        check.due("room(-1, -1, 100)", x.room(-1, -1, 100), -1);
        check.due("safe(6, 2)", x.safe(6, 2), -1);
        check.due("safe(-1, -1)", x.safe(-1, -1), -1);
        check.due("widen(1, 0)", x.widen(1, 0), -1);
        check.due("widen(-1, 7)", x.widen(-1, 7), -1);
        check.due("shut(1, 61)", x.shut(1, 61), -1);
        check.due("shut(-1, -2)", x.shut(-1, -2), -1);
        check.due("told(6, 5)", x.told(6, 5), -1);
        check.due("told(-1, -1)", x.told(-1, -1), -1);
        check.due("of(1, 5)", x.of(1, 5), -1);
        check.due("of(-1, -1)", x.of(-1, -1), -1);
    }

    private static void unknownBeforeOutsideBeforeFull() {
        check.about("passage: UNKNOWN comes before OUTSIDE, and that before FULL");
        ExitFlows x = Say.plan("ab11".repeat(9), "b");
        for (int round = 0; round < 2; round++) {
            check.due("passage(6, 6, 1, 1)", x.passage(6, 6, 1, 1), -1);
            check.due("passage(-1, 0, 7, 5)", x.passage(-1, 0, 7, 5), -1);
            check.due("passage(0, 6, 0, 0)", x.passage(0, 6, 0, 0), -1);
            check.due("passage(2, 2, 1, 1)", x.passage(2, 2, 1, 1), -2);
            check.due("passage(0, 1, 7, 1)", x.passage(0, 1, 7, 1), -2);
            check.due("passage(0, 1, 1, 0)", x.passage(0, 1, 1, 0), -2);
            check.due("passage(0, 1, 1, 1)", x.passage(0, 1, 1, 1), round == 0 ? 9 : -4);
        }
    }

    private static void outsideBeforeFull() {
        check.about("say: OUTSIDE comes before FULL");
        ExitFlows x = new ExitFlows();
        Say.text(x, "!".repeat(40));
        check.due("say(32)", x.say(32), -2);
        check.due("say(127)", x.say(127), -2);
        check.due("say(33)", x.say(33), -4);
        check.due("say(126)", x.say(126), -4);
    }

    private static void faultBeforeFull() {
        check.about("read: FAULT comes before FULL");
        ExitFlows x = Say.plan("ab11".repeat(10), "");
        Say.text(x, "ab11a");
        check.due("read of 'ab11a' behind ten", x.read(), -7);
        x.wipe();
        Say.text(x, "ab11aa11");
        check.due("read of 'ab11aa11' behind ten", x.read(), -7);
        x.wipe();
        Say.text(x, "ab11");
        check.due("read of 'ab11' behind ten", x.read(), -4);
    }

    private static void outsideBeforeState() {
        check.about("restore: OUTSIDE comes before STATE");
        ExitFlows x = new ExitFlows();
        check.due("restore(-1), nothing kept", x.restore(-1), -2);
        check.due("restore(2), nothing kept", x.restore(2), -2);
        check.due("restore(0), nothing kept", x.restore(0), -3);
        check.due("restore(1), nothing kept", x.restore(1), -3);
    }

    private static void noneOnlyWhereNoRefusalFits() {
        check.about("NONE is told only where no refusal fits");
        ExitFlows x = Say.plan("ab11", "");
        x.room(0, 1, 1);
        check.due("last()", x.last(), -6);
        check.due("door(0)", x.door(0), -6);
        check.due("door(1), there is no LAST", x.door(1), -1);
        check.due("door(-1), there is no LAST", x.door(-1), -1);
        check.due("of(0, 4), never", x.of(0, 4), -6);
        check.due("of(1, 4)", x.of(1, 4), -1);
        check.due("shut(1, -1)", x.shut(1, -1), -1);
        check.due("shut(0, -2), never", x.shut(0, -2), -2);
        check.due("shut(0, 61), never", x.shut(0, 61), -2);
    }

    private static ExitFlows busy() {
        ExitFlows x = Say.plan("ab21bc33", "c");
        x.room(0, 9, 4);
        x.room(2, 3, 2);
        x.shut(1, 40);
        x.image(0);
        x.room(1, 5, 7);
        x.shut(0, 50);
        Say.text(x, "fd64ef11".repeat(5));
        return x;
    }

    private static int refusedCalls(ExitFlows x) {
        int[] answers = {x.room(6, 1, 1), x.room(-1, 1, 1), x.room(0, 31, 5), x.room(0, -1, 5), x.room(0, 5, 0),
            x.room(0, 5, 100), x.safe(6, 1), x.safe(-1, 1), x.safe(0, 2), x.safe(2, -1), x.passage(6, 0, 1, 1),
            x.passage(0, 6, 1, 1), x.passage(3, 3, 1, 1), x.passage(0, 1, 0, 1), x.passage(0, 1, 7, 1),
            x.passage(0, 1, 1, 0), x.passage(0, 1, 1, 5), x.widen(2, 1), x.widen(-1, 1), x.widen(0, 0), x.widen(0, 7),
            x.shut(2, 1), x.shut(-1, 1), x.shut(0, 61), x.shut(0, -2), x.say(32), x.say(127), x.say('a'), x.read(),
            x.told(6, 0), x.told(0, 5), x.of(2, 0), x.of(0, 5), x.out(-1), x.out(61), x.door(2), x.door(-1),
            x.rush(-1), x.rush(201), x.image(-1), x.image(2), x.restore(-1), x.restore(2), x.restore(1), x.count(-1),
            x.count(6)};
        for (int n = 0; n < answers.length; n++) {
            check.that("refused call " + n + " answers a refusal, not " + answers[n], answers[n] < 0 && answers[n] > -5);
        }
        return answers.length;
    }

    /** Two objects with the same calls, one with refused ones between: all that can be told of them is the same. */
    private static void refusedChangesNothing() {
        check.about("What is refused changes nothing");
        ExitFlows x = busy();
        ExitFlows twin = busy();
        check.due("refused calls", refusedCalls(x), 46);
        check.that("the state", Say.state(x).equals(Say.state(twin)));
        check.that("the answers", Say.answers(x).equals(Say.answers(twin)));
        check.that("the image", Say.restored(x, 0).equals(Say.restored(twin, 0)));
        check.due("an image that was not kept", x.restore(1), -3);
        // The pad's ten passages find space only in an object that has none: so their signs are seen.
        ExitFlows y = new ExitFlows();
        Say.text(y, "fd64ef11".repeat(5));
        y.say('a');
        y.say(32);
        y.passage(0, 0, 1, 1);
        check.due("read of a pad with refused signs", y.read(), 10);
        for (int passage = 0; passage < 10; passage++) {
            check.due("from of " + passage, y.of(passage, 0), passage % 2 == 0 ? 5 : 4);
        }
        Say.text(y, "ab1");
        check.due("read with a fault", y.read(), -7);
        check.due("the pad keeps its signs", y.wipe(), 3);
        Say.text(y, "ab11");
        check.due("read without space", y.read(), -4);
        check.due("the pad keeps its signs then too", y.wipe(), 4);
        check.due("no passage more", y.count(1), 10);
    }

    private static void toldAsThingsAreThen() {
        check.about("Whatever is told is told as things are then");
        ExitFlows x = Say.plan("ab11", "b");
        x.room(0, 2, 1);
        both(x, "two", 2, 2);
        x.room(0, 4, 1);
        both(x, "four", 4, 4);
        x.widen(0, 2);
        both(x, "wider", 2, 2);
        x.safe(1, 0);
        both(x, "nothing safe", -6, -6);
        x.safe(1, 1);
        both(x, "safe again", 2, 2);
        x.shut(0, 1);
        both(x, "shut", -6, -6);
        x.shut(0, -1);
        both(x, "shut no more", 2, 2);
        x.image(0);
        x.passage(0, 1, 2, 1);
        both(x, "a passage more", 1, 2);
        x.restore(0);
        both(x, "restored", 2, 2);
        Say.text(x, "ab21");
        both(x, "told on the pad, not read", 2, 2);
        x.read();
        both(x, "read", 1, 2);
    }

    private static void both(ExitFlows x, String when, int last, int rushed) {
        check.due(when + ": last()", x.last(), last);
        check.due(when + ": rushed()", x.rushed(), rushed);
        check.due(when + ": out(60)", x.out(60) == x.count(0) ? 1 : 0, last == -6 ? 0 : 1);
    }

    private static void askingChangesNothing() {
        check.about("Calls that only tell change nothing");
        ExitFlows x = busy();
        String state = Say.state(x);
        String answers = Say.answers(x);
        check.that("the state after all answers", Say.state(x).equals(state));
        check.that("the answers again", Say.answers(x).equals(answers));
        check.that("the image", Say.restored(x, 0).equals(Say.restored(busy(), 0)));
    }

    private static void setsAreNumbers() {
        check.about("Sets are numbers: bit k tells whether k is in it");
        ExitFlows x = Say.plan("ab11".repeat(10), "b");
        x.room(0, 10, 1);
        check.due("all ten are needed", x.needed(), 1023);
        x.room(0, 11, 1);
        check.due("each of ten helps", x.helps(), 1023);
        x.shut(9, 0);
        x.room(0, 9, 1);
        check.due("all but the last are needed", x.needed(), 511);
        ExitFlows y = Say.plan("ab12".repeat(9) + "ab11", "b");
        y.room(0, 1, 1);
        check.due("the last alone is needed", y.needed(), 512);
        y.room(0, 2, 1);
        check.due("the last alone helps", y.helps(), 512);
        for (int room = 0; room < 6; room++) {
            ExitFlows z = new ExitFlows();
            z.safe(room, 1);
            check.due("safe rooms: " + room, z.count(4), 1 << room);
        }
    }

    private static void numbersThatWrapAround() {
        check.about("Numbers that wrap round to one that would do are refused");
        ExitFlows x = Say.plan("ab11".repeat(10), "b");
        // 1 << 32 is 1 << 0, and a sum or difference beyond an int's ends comes out at the other end.
        for (int room : new int[] {32, 64, -32, 256, 65536, LOW, LOW + 1, HIGH, HIGH - 1}) {
            check.due("room(" + room + ")", x.room(room, 1, 1), -1);
            check.due("safe(" + room + ")", x.safe(room, 1), -1);
            check.due("told(" + room + ")", x.told(room, 0), -1);
            check.due("passage from " + room, x.passage(room, 0, 1, 1), -1);
            check.due("passage to " + room, x.passage(0, room, 1, 1), -1);
            check.due("widen(" + room + ")", x.widen(room, 1), -1);
            check.due("shut(" + room + ")", x.shut(room, 1), -1);
            check.due("of(" + room + ")", x.of(room, 0), -1);
            check.due("door(" + room + ")", x.door(room), -1);
            check.due("image(" + room + ")", x.image(room), -2);
            check.due("restore(" + room + ")", x.restore(room), -2);
            check.due("count(" + room + ")", x.count(room), -2);
        }
        for (int number : new int[] {LOW, LOW + 1, LOW + 60, HIGH, HIGH - 1, 256 + 97, 65536 + 97, -256 + 97}) {
            check.due("people " + number, x.room(0, number, 1), -2);
            check.due("area " + number, x.room(0, 1, number), -2);
            check.due("is " + number, x.safe(0, number), -2);
            check.due("width " + number, x.widen(0, number), -2);
            check.due("width of a new one " + number, x.passage(0, 1, number, 1), -2);
            check.due("length of a new one " + number, x.passage(0, 1, 1, number), -2);
            check.due("shut from " + number, x.shut(0, number), -2);
            check.due("sign " + number, x.say(number), -2);
            check.due("told what " + number, x.told(0, number), -2);
            check.due("of what " + number, x.of(0, number), -2);
            check.due("out(" + number + ")", x.out(number), -2);
            check.due("rush(" + number + ")", x.rush(number), -2);
        }
    }

    private static void theLastOf512Calls() {
        check.about("An object is used for at most 512 calls");
        ExitFlows x = new ExitFlows();
        int before = 0;
        for (int call = 1; call <= 509; call++) {
            int people = call % 31;
            check.due("call " + call, x.room(0, people, 1 + call % 99), before);
            before = people;
        }
        check.due("call 510", x.safe(1, 1), 1);
        check.due("call 511", x.passage(0, 1, 1, 1), 0);
        check.due("call 512", x.last(), 509 % 31);
    }
}
