/** Each sentence of the promises 20 to 22 that names an edge, with a test of its own. */
public final class ImagesEdgesTest {
    private static final int OUTSIDE = -2, STATE = -3, FULL = -4, NONE = -6;
    private static final Check check = new Check();

    public static void main(String[] args) {
        images0And1();
        inPlaceOfWhatWasKept();
        laterChangesDoNotReachIt();
        asTheyWereWhenTheyWereKept();
        passagesThatCameLaterAreGone();
        anImageOfNothing();
        aFullImage();
        theImageStays();
        thePadStays();
        nothingWasKept();
        countOutside();
        countPeople();
        countPassages();
        countSigns();
        countShut();
        countSafe();
        countImages();
        check.end();
    }

    // ---- Promise 20

    private static void images0And1() {
        check.about("20: an IMAGE (0, 1): 1. OUTSIDE");
        ExitFlows x = new ExitFlows();
        check.due("image(-1)", x.image(-1), OUTSIDE);
        check.due("image(2)", x.image(2), OUTSIDE);
        check.due("none is kept", x.count(5), 0);
        check.due("image(0)", x.image(0), 1);
        check.due("image(1)", x.image(1), 1);
        check.due("image(2), both kept", x.image(2), OUTSIDE);
    }

    private static void inPlaceOfWhatWasKept() {
        check.about("20: in place of what was kept there");
        ExitFlows x = new ExitFlows();
        x.room(0, 1, 1);
        x.image(0);
        x.room(0, 2, 2);
        x.image(1);
        x.room(0, 3, 3);
        check.due("image(0) again", x.image(0), 1);
        x.room(0, 4, 4);
        x.restore(0);
        check.due("people of the first", x.told(0, 0), 3);
        check.due("area of the first", x.told(0, 1), 3);
        x.restore(1);
        check.due("people of the second", x.told(0, 0), 2);
        check.due("area of the second", x.told(0, 1), 2);
    }

    private static void laterChangesDoNotReachIt() {
        check.about("20: what is kept is kept as it is then");
        ExitFlows x = Say.plan("ab22cd33", "b");
        x.room(0, 8, 9);
        x.shut(1, 30);
        String kept = Say.state(x).replaceFirst("0 -6$", "1 -6");
        x.image(0);
        x.room(0, 1, 1);
        x.safe(1, 0);
        x.safe(5, 1);
        x.widen(0, 6);
        x.shut(0, 1);
        x.shut(1, -1);
        x.passage(4, 5, 1, 1);
        x.restore(0);
        check.that("as it was", Say.state(x).equals(kept));
    }

    // ---- Promise 21

    private static void asTheyWereWhenTheyWereKept() {
        check.about("21: ROOMS and PASSAGES are as they were when they were kept");
        ExitFlows x = Say.plan("ab11", "b");
        x.room(0, 5, 10);
        x.image(1);
        x.passage(0, 1, 1, 1);
        x.passage(0, 1, 1, 1);
        check.due("last() of three", x.last(), 2);
        check.due("restore(1)", x.restore(1), 1);
        check.due("passages", x.count(1), 1);
        check.due("of(1, 0) is gone", x.of(1, 0), -1);
        check.due("door(1) is gone", x.door(1), -1);
        check.due("last() of one", x.last(), 5);
        check.due("helps() of one", x.helps(), 1);
        check.due("the next passage's number", x.passage(2, 3, 4, 2), 1);
        check.due("its length", x.of(1, 3), 2);
        check.due("restore(1) twice", x.restore(1) + x.restore(1), 2);
        check.due("passages then", x.count(1), 1);
    }

    private static void passagesThatCameLaterAreGone() {
        check.about("21: PASSAGES are as they were: nobody goes by one that came later");
        ExitFlows x = Say.plan("ab12", "b");
        x.room(0, 3, 1);
        x.image(0);
        x.passage(0, 1, 6, 1);
        check.due("rushed() by the wide one", x.rushed(), 1);
        check.due("last() by the wide one", x.last(), 1);
        x.restore(0);
        check.due("rushed()", x.rushed(), 4);
        check.due("rush(1)", x.rush(1), 0);
        check.due("last()", x.last(), 4);
        check.due("out(1)", x.out(1), 0);
        check.due("helps()", x.helps(), 1);
        check.due("needed()", x.needed(), 1);
        check.due("door(0)", x.door(0), 3);
    }

    private static void anImageOfNothing() {
        check.about("20, 21: an IMAGE of a new object");
        ExitFlows x = new ExitFlows();
        x.image(0);
        Say.text(x, "ab11".repeat(10));
        x.read();
        for (int room = 0; room < 6; room++) {
            x.room(room, 30, 99);
            x.safe(room, 1);
        }
        check.due("restore(0)", x.restore(0), 1);
        check.due("people", x.count(0), 0);
        check.due("passages", x.count(1), 0);
        check.due("safe rooms", x.count(4), 0);
        check.due("area", x.told(5, 1), 10);
        check.due("a first passage", x.passage(0, 1, 1, 1), 0);
    }

    private static void aFullImage() {
        check.about("20, 21: an IMAGE of ten PASSAGES");
        ExitFlows x = Say.plan("ab11bc22cd33de44ef51fa62ac13bd24ce31df42", "af");
        for (int passage = 0; passage < 10; passage++) {
            x.shut(passage, 60 - passage);
        }
        for (int room = 0; room < 6; room++) {
            x.room(room, 30 - room, 99 - room);
        }
        ExitFlows twin = new ExitFlows();
        x.image(0);
        twin.image(0);
        x.image(1);
        x.restore(0);
        check.due("passage", x.passage(0, 1, 1, 1), FULL);
        for (int passage = 0; passage < 10; passage++) {
            check.due("shut of " + passage, x.of(passage, 4), 60 - passage);
            check.due("width of " + passage, x.of(passage, 2), 1 + passage % 6);
        }
        for (int room = 0; room < 6; room++) {
            check.due("people of " + room, x.told(room, 0), 30 - room);
            check.due("area of " + room, x.told(room, 1), 99 - room);
        }
        check.due("safe rooms", x.count(4), 33);
        check.due("another object's image is its own", twin.restore(0) + twin.count(1), 1);
    }

    private static void theImageStays() {
        check.about("21: the IMAGE stays");
        ExitFlows x = new ExitFlows();
        x.room(0, 7, 7);
        x.image(0);
        for (int time = 0; time < 3; time++) {
            x.room(0, 20 + time, 1);
            check.due("restore(0)", x.restore(0), 1);
            check.due("people", x.told(0, 0), 7);
            check.due("it is kept still", x.count(5), 1);
        }
    }

    private static void thePadStays() {
        check.about("21: THE PAD stays");
        ExitFlows x = new ExitFlows();
        Say.text(x, "fe");
        x.image(0);
        Say.text(x, "63");
        check.due("restore(0)", x.restore(0), 1);
        check.due("signs", x.count(2), 4);
        check.due("read", x.read(), 1);
        check.due("from", x.of(0, 0), 5);
        check.due("length", x.of(0, 3), 3);
        check.due("restore(0) then", x.restore(0), 1);
        check.due("what was read does not come back", x.count(2), 0);
        Say.text(x, "!".repeat(40));
        x.restore(0);
        check.due("a full pad stays full", x.say('!'), FULL);
        x.image(0);
        check.due("image leaves it too", x.wipe(), 40);
    }

    private static void nothingWasKept() {
        check.about("21: OUTSIDE; STATE: nothing was kept in it");
        ExitFlows x = Say.plan("ab11", "b");
        x.room(0, 3, 3);
        check.due("restore(0)", x.restore(0), STATE);
        check.due("restore(1)", x.restore(1), STATE);
        check.due("restore(-1)", x.restore(-1), OUTSIDE);
        check.due("restore(2)", x.restore(2), OUTSIDE);
        x.image(1);
        check.due("restore(0), the other is kept", x.restore(0), STATE);
        check.due("restore(1)", x.restore(1), 1);
        x.image(0);
        check.due("restore(0), both are kept", x.restore(0), 1);
        check.due("restore(2), both are kept", x.restore(2), OUTSIDE);
        check.due("all is as it was", x.last(), 3);
    }

    // ---- Promise 22

    private static void countOutside() {
        check.about("22: OUTSIDE");
        ExitFlows x = new ExitFlows();
        for (int what = -3; what <= 9; what++) {
            check.due("count(" + what + ")", x.count(what), what < 0 || what > 5 ? OUTSIDE : 0);
        }
    }

    private static void countPeople() {
        check.about("22: PEOPLE in all ROOMS (what = 0)");
        ExitFlows x = new ExitFlows();
        for (int room = 0; room < 6; room++) {
            x.room(room, 30, 1);
            check.due("with room " + room, x.count(0), 30 * (room + 1));
        }
        x.safe(0, 1);
        check.due("those in safe rooms too", x.count(0), 180);
        x.room(5, 0, 1);
        check.due("less", x.count(0), 150);
    }

    private static void countPassages() {
        check.about("22: PASSAGES (1)");
        ExitFlows x = new ExitFlows();
        for (int number = 1; number <= 11; number++) {
            x.passage(0, 1, 1, 1);
            check.due("passages", x.count(1), Math.min(10, number));
        }
        x.shut(0, 0);
        check.due("one that is shut too", x.count(1), 10);
    }

    private static void countSigns() {
        check.about("22: signs of THE PAD (2)");
        ExitFlows x = new ExitFlows();
        for (int number = 1; number <= 41; number++) {
            x.say('~');
            check.due("signs", x.count(2), Math.min(40, number));
        }
        x.wipe();
        check.due("wiped", x.count(2), 0);
    }

    private static void countShut() {
        check.about("22: PASSAGES that are SHUT from some TICK on (3)");
        ExitFlows x = Say.plan("ab11".repeat(10), "");
        check.due("none", x.count(3), 0);
        for (int passage = 0; passage < 10; passage++) {
            x.shut(passage, passage * 60 / 9);
            check.due("from 0, or later, on", x.count(3), passage + 1);
        }
        x.shut(9, -1);
        check.due("one never", x.count(3), 9);
        x.shut(0, 60);
        check.due("another tick", x.count(3), 9);
        x.shut(0, 61);
        x.shut(9, -2);
        check.due("refused", x.count(3), 9);
    }

    private static void countSafe() {
        check.about("22: SAFE ROOMS, a set (4)");
        ExitFlows x = new ExitFlows();
        check.due("none", x.count(4), 0);
        x.safe(5, 1);
        check.due("f", x.count(4), 32);
        x.safe(0, 1);
        check.due("a and f", x.count(4), 33);
        for (int room = 0; room < 6; room++) {
            x.safe(room, 1);
        }
        check.due("all", x.count(4), 63);
        x.safe(5, 0);
        check.due("all but f", x.count(4), 31);
    }

    private static void countImages() {
        check.about("22: which IMAGES are kept (5: 1 the first, 2 the second, added)");
        ExitFlows x = new ExitFlows();
        check.due("none", x.count(5), 0);
        x.image(1);
        check.due("the second", x.count(5), 2);
        x.image(1);
        check.due("the second, again", x.count(5), 2);
        x.image(0);
        check.due("both", x.count(5), 3);
        x.restore(1);
        check.due("both, after restore", x.count(5), 3);
        ExitFlows y = new ExitFlows();
        y.image(0);
        check.due("the first", y.count(5), 1);
        y.restore(1);
        check.due("a refused restore keeps none", y.count(5), 1);
        check.due("fault()", y.fault(), NONE);
    }
}
