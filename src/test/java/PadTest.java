/** Promises 7 (say), 8 (wipe), 9 (fault), 10 (read). */
public final class PadTest {
    private static final Check check = new Check();

    public static void main(String[] args) {
        say();
        wipe();
        fault();
        everySign();
        read();
        readFull();
        check.end();
    }

    private static void say() {
        ExitFlows x = new ExitFlows();
        check.due("sign 32", x.say(32), -2);
        check.due("sign 127", x.say(127), -2);
        check.due("sign -1", x.say(-1), -2);
        check.due("sign 97 + 256", x.say(97 + 256), -2);
        check.due("sign 33", x.say(33), 1);
        check.due("sign 126", x.say(126), 2);
        for (int n = 3; n <= 40; n++) {
            check.due("sign " + n, x.say('a'), n);
        }
        check.due("a sign too many", x.say('a'), -4);
        check.due("a wrong sign too many", x.say(32), -2);
        check.due("count", x.count(2), 40);
    }

    private static void wipe() {
        ExitFlows x = new ExitFlows();
        Say.text(x, "ab1");
        check.due("wipe", x.wipe(), 3);
        check.due("wipe again", x.wipe(), 0);
        check.due("count", x.count(2), 0);
        check.due("fault", x.fault(), -6);
        check.due("say", x.say('b'), 1);
        Say.text(x, "a11");
        check.due("read", x.read(), 1);
        check.due("from", x.of(0, 0), 1);
    }

    private static void fault() {
        String[] pads = {"", "a", "ab", "ab6", "ab64", "ab641", "ab64f", "ab64fa", "ab64fa1", "ab64fa11", "aa", "aa11",
            "ag", "g", "A", "1", "ab0", "ab7", "ab10", "ab15", "ab1b", "ab64fg", "ab64ff11", "ab64g", "ba14x", "aba"};
        int[] due = {-6, 1, 2, 3, -6, 4, 5, 6, 7, -6, 1, 1,
            1, 0, 0, 0, 2, 2, 3, 3, 3, 5, 5, 4, 4, 2};
        for (int n = 0; n < pads.length; n++) {
            ExitFlows x = new ExitFlows();
            Say.text(x, pads[n]);
            String before = Say.state(x);
            check.due("fault of " + pads[n], x.fault(), due[n]);
            check.due("read of " + pads[n], x.read(), due[n] == -6 ? pads[n].length() / 4 : -7);
            check.that("after read of " + pads[n], due[n] == -6 ? x.count(2) == 0 : Say.state(x).equals(before));
        }
        ExitFlows x = new ExitFlows();
        Say.text(x, "ab11".repeat(9) + "ab15");
        check.due("fault at the last sign", x.fault(), 39);
    }

    private static void everySign() {
        for (int place = 0; place < 8; place++) {
            for (int sign = 33; sign <= 126; sign++) {
                ExitFlows x = new ExitFlows();
                Say.text(x, "cd23ec14".substring(0, place));
                x.say(sign);
                String fitting = place == 1 ? "abdef" : place == 5 ? "abcdf" : place % 4 == 0 ? "abcdef"
                    : place % 4 == 2 ? "123456" : "1234";
                boolean fits = fitting.indexOf(sign) >= 0;
                int due = !fits ? place : place % 4 == 3 ? -6 : place + 1;
                check.due("fault with sign " + sign + " at " + place, x.fault(), due);
            }
        }
    }

    private static void read() {
        ExitFlows x = new ExitFlows();
        x.passage(2, 3, 2, 2);
        x.shut(0, 9);
        Say.text(x, "fa64bc11");
        check.due("read", x.read(), 3);
        int[][] due = {{2, 3, 2, 2, 9}, {5, 0, 6, 4, -6}, {1, 2, 1, 1, -6}};
        for (int n = 0; n < 3; n++) {
            for (int what = 0; what < 5; what++) {
                check.due("of(" + n + ", " + what + ")", x.of(n, what), due[n][what]);
            }
        }
        check.due("the pad is empty", x.count(2), 0);
        check.due("read of the empty pad", x.read(), 3);
    }

    private static void readFull() {
        ExitFlows x = new ExitFlows();
        Say.text(x, "ab11".repeat(10));
        check.due("read ten", x.read(), 10);
        check.due("read none more", x.read(), 10);
        Say.text(x, "ab11");
        String before = Say.state(x);
        check.due("read an eleventh", x.read(), -4);
        check.that("it changes nothing", Say.state(x).equals(before));
        x.say('a');
        check.due("a fault comes first", x.read(), -7);
        ExitFlows y = new ExitFlows();
        y.passage(0, 1, 1, 1);
        Say.text(y, "ab11".repeat(10));
        check.due("read ten behind one", y.read(), -4);
        check.due("none of them came", y.count(1), 1);
        ExitFlows z = new ExitFlows();
        z.passage(0, 1, 1, 1);
        Say.text(z, "bc22".repeat(9));
        check.due("read nine behind one", z.read(), 10);
        check.due("the ninth", z.of(9, 0), 1);
    }
}
