/** Promises 20 (image), 21 (restore), 22 (count). */
public final class ImagesTest {
    private static final Check check = new Check();

    public static void main(String[] args) {
        keepAndRestore();
        imagesOfOtherPassages();
        refused();
        padStays();
        count();
        check.end();
    }

    private static ExitFlows some() {
        ExitFlows x = Say.plan("ab34bc12", "c");
        x.room(0, 12, 34);
        x.room(5, 3, 2);
        x.shut(1, 44);
        return x;
    }

    private static void changeAll(ExitFlows x) {
        for (int room = 0; room < 6; room++) {
            x.room(room, 20 + room, 60 + room);
            x.safe(room, room % 2);
        }
        x.widen(0, 6);
        x.shut(0, 1);
        x.shut(1, -1);
        x.passage(4, 3, 2, 1);
    }

    private static void keepAndRestore() {
        ExitFlows x = some();
        check.due("image(1)", x.image(1), 1);
        check.due("kept", x.count(5), 2);
        String first = Say.state(x);
        int last = x.last();
        changeAll(x);
        check.that("all is another", !Say.state(x).equals(first));
        check.due("restore(1)", x.restore(1), 1);
        check.that("as it was", Say.state(x).equals(first));
        check.due("last as it was", x.last(), last);
        check.due("the passage that came later is none", x.of(2, 0), -1);
        changeAll(x);
        check.due("restore(1) again: the image stayed", x.restore(1), 1);
        check.that("as it was, again", Say.state(x).equals(first));
        changeAll(x);
        check.due("image(0)", x.image(0), 1);
        check.due("both kept", x.count(5), 3);
        check.due("restore(1) once more", x.restore(1), 1);
        check.due("width of the one", x.of(0, 2), 3);
        check.due("restore(0)", x.restore(0), 1);
        check.due("width of the other", x.of(0, 2), 6);
        check.due("image(1) in place of what was kept", x.image(1), 1);
        x.widen(0, 2);
        x.restore(1);
        check.due("width of the new image", x.of(0, 2), 6);
        check.due("passages of the new image", x.count(1), 3);
    }

    private static void imagesOfOtherPassages() {
        ExitFlows x = new ExitFlows();
        x.image(0);
        Say.text(x, "ab34bc12");
        x.read();
        x.shut(0, 5);
        x.image(1);
        String first = Say.state(x);
        x.restore(0);
        check.due("no passages", x.count(1), 0);
        Say.text(x, "fe61dc53");
        x.read();
        check.due("another from", x.of(0, 0), 5);
        check.due("never shut", x.of(0, 4), -6);
        x.restore(1);
        check.that("from, to, width, length, shut as they were", Say.state(x).equals(first));
    }

    private static void refused() {
        ExitFlows x = some();
        String before = Say.state(x);
        check.due("image(-1)", x.image(-1), -2);
        check.due("image(2)", x.image(2), -2);
        check.due("restore(-1)", x.restore(-1), -2);
        check.due("restore(2)", x.restore(2), -2);
        check.due("restore(0), nothing kept", x.restore(0), -3);
        x.image(0);
        check.due("restore(1), only the other is kept", x.restore(1), -3);
        check.due("kept", x.count(5), 1);
        x.restore(0);
        x.image(0);
        check.that("but for the image all is as before",
            Say.state(x).equals(before.substring(0, before.lastIndexOf("0 -6")) + "1 -6"));
    }

    private static void padStays() {
        ExitFlows x = some();
        Say.text(x, "ab");
        x.image(0);
        Say.text(x, "11");
        x.restore(0);
        check.due("the pad stays", x.count(2), 4);
        check.due("read", x.read(), 3);
    }

    private static void count() {
        ExitFlows x = some();
        check.due("people", x.count(0), 15);
        check.due("passages", x.count(1), 2);
        check.due("signs", x.count(2), 0);
        check.due("shut", x.count(3), 1);
        check.due("safe", x.count(4), 4);
        check.due("kept", x.count(5), 0);
        x.room(2, 30, 1);
        check.due("people in safe rooms too", x.count(0), 45);
        x.shut(0, 0);
        x.shut(1, 60);
        check.due("both shut", x.count(3), 2);
        x.say('!');
        check.due("a sign", x.count(2), 1);
        check.due("count(-1)", x.count(-1), -2);
        check.due("count(6)", x.count(6), -2);
        for (int room = 0; room < 6; room++) {
            x.room(room, 30, 1);
        }
        check.due("most people", x.count(0), 180);
    }
}
