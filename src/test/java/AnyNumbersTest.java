/** Whatever the numbers are, a call answers, throws nothing, and changes nothing where it refuses. */
public final class AnyNumbersTest {
    private static final int[] ODD = {Integer.MIN_VALUE, Integer.MIN_VALUE + 1, -1000, -7, -6, -2, -1, 6, 10, 61, 99, 100,
        201, 1000, 65536, Integer.MAX_VALUE - 1, Integer.MAX_VALUE};
    private static final Check check = new Check();

    public static void main(String[] args) {
        onNew();
        onFull();
        check.end();
    }

    private static void onNew() {
        ExitFlows x = new ExitFlows();
        String before = Say.state(x);
        callsOfOddNumbers(x, true);
        check.that("a new object is as before", Say.state(x).equals(before));
    }

    private static void onFull() {
        ExitFlows x = Say.plan("ab11bc22cd33de44ef11fa22ac64bd54ce43df33", "f");
        for (int room = 0; room < 6; room++) {
            x.room(room, 30, 1);
        }
        Say.text(x, "ab11".repeat(10));
        x.image(0);
        x.image(1);
        String before = Say.state(x);
        int last = x.last();
        callsOfOddNumbers(x, false);
        check.that("a full object is as before", Say.state(x).equals(before));
        check.due("last is as before", x.last(), last);
    }

    private static void callsOfOddNumbers(ExitFlows x, boolean isNew) {
        for (int odd : ODD) {
            String with = " with " + odd;
            check.due("room" + with, x.room(odd, odd, odd), odd >= 0 && odd < 6 ? -2 : -1);
            check.due("room(0, ..)" + with, x.room(0, odd, 0), -2);
            check.due("room(0, 31, ..)" + with, x.room(0, 31, odd), -2);
            check.due("safe" + with, x.safe(odd, 1), -1);
            check.due("safe(0, ..)" + with, x.safe(0, odd), -2);
            check.due("passage from" + with, x.passage(odd, 0, 1, 1), -1);
            check.due("passage to" + with, x.passage(0, odd, 1, 1), -1);
            check.due("passage width" + with, x.passage(0, 1, odd, odd == 6 ? 5 : 1), -2);
            check.due("passage length" + with, x.passage(0, 1, 1, odd), -2);
            check.due("widen" + with, x.widen(odd, odd == 6 ? 0 : 1), odd == 6 && !isNew ? -2 : -1);
            check.due("shut" + with, x.shut(odd, odd == 6 ? 61 : 1), odd == 6 && !isNew ? -2 : -1);
            check.due("told" + with, x.told(odd, 0), -1);
            check.due("told(0, ..)" + with, x.told(0, odd), -2);
            check.due("of" + with, x.of(odd, 9), odd == 6 && !isNew ? -2 : -1);
            check.due("of(0, ..)" + with, x.of(0, odd), isNew ? -1 : -2);
            check.due("image" + with, x.image(odd), -2);
            check.due("restore" + with, x.restore(odd), -2);
            check.due("count" + with, x.count(odd), -2);
            if (odd < 0 || odd > 200) {
                check.due("say" + with, x.say(odd), -2);
                check.due("out" + with, x.out(odd), -2);
                check.due("door" + with, x.door(odd), -1);
                check.due("rush" + with, x.rush(odd), -2);
            }
        }
    }
}
