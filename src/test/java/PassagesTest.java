/** Promises 4 (passage), 5 (widen), 6 (shut), 12 (of). */
public final class PassagesTest {
    private static final Check check = new Check();

    public static void main(String[] args) {
        passage();
        order();
        widen();
        shut();
        of();
        check.end();
    }

    private static void passage() {
        ExitFlows x = new ExitFlows();
        check.due("widest, longest", x.passage(0, 5, 6, 4), 0);
        check.due("least", x.passage(5, 0, 1, 1), 1);
        check.due("alike", x.passage(5, 0, 1, 1), 2);
        String before = Say.state(x);
        check.due("from -1", x.passage(-1, 0, 1, 1), -1);
        check.due("from 6", x.passage(6, 0, 1, 1), -1);
        check.due("to -1", x.passage(0, -1, 1, 1), -1);
        check.due("to 6", x.passage(0, 6, 1, 1), -1);
        check.due("both 6", x.passage(6, 6, 9, 9), -1);
        check.due("one room", x.passage(3, 3, 1, 1), -2);
        check.due("width 0", x.passage(0, 1, 0, 1), -2);
        check.due("width 7", x.passage(0, 1, 7, 1), -2);
        check.due("length 0", x.passage(0, 1, 1, 0), -2);
        check.due("length 5", x.passage(0, 1, 1, 5), -2);
        check.that("refused passages change nothing", Say.state(x).equals(before));
    }

    private static void order() {
        ExitFlows x = new ExitFlows();
        for (int n = 0; n < 10; n++) {
            check.due("passage " + n, x.passage(n % 6, (n + 1) % 6, 1 + n % 6, 1 + n % 4), n);
        }
        String before = Say.state(x);
        check.due("an eleventh", x.passage(0, 1, 1, 1), -4);
        check.due("an eleventh of no room", x.passage(6, 1, 1, 1), -1);
        check.due("an eleventh, too wide", x.passage(0, 1, 7, 1), -2);
        check.that("refused passages change nothing", Say.state(x).equals(before));
        for (int n = 0; n < 10; n++) {
            check.due("from of " + n, x.of(n, 0), n % 6);
            check.due("to of " + n, x.of(n, 1), (n + 1) % 6);
            check.due("width of " + n, x.of(n, 2), 1 + n % 6);
            check.due("length of " + n, x.of(n, 3), 1 + n % 4);
            check.due("shut of " + n, x.of(n, 4), -6);
        }
    }

    private static void widen() {
        ExitFlows x = Say.plan("ab32bc41", "");
        check.due("widen", x.widen(1, 6), 4);
        check.due("widen back", x.widen(1, 1), 6);
        check.due("width", x.of(1, 2), 1);
        check.due("width of the other", x.of(0, 2), 3);
        String before = Say.state(x);
        check.due("passage -1", x.widen(-1, 1), -1);
        check.due("passage 2", x.widen(2, 0), -1);
        check.due("width 0", x.widen(0, 0), -2);
        check.due("width 7", x.widen(0, 7), -2);
        check.that("refused widen changes nothing", Say.state(x).equals(before));
    }

    private static void shut() {
        ExitFlows x = Say.plan("ab32bc41", "");
        check.due("shut(1, 60)", x.shut(1, 60), -6);
        check.due("shut(1, 0)", x.shut(1, 0), 60);
        check.due("of", x.of(1, 4), 0);
        check.due("of the other", x.of(0, 4), -6);
        check.due("count(3)", x.count(3), 1);
        check.due("shut(1, -1)", x.shut(1, -1), 0);
        check.due("shut(1, -1) again", x.shut(1, -1), -6);
        check.due("of then", x.of(1, 4), -6);
        check.due("count(3) then", x.count(3), 0);
        x.shut(0, 17);
        String before = Say.state(x);
        check.due("passage -1", x.shut(-1, 1), -1);
        check.due("passage 2", x.shut(2, 99), -1);
        check.due("tick -2", x.shut(0, -2), -2);
        check.due("tick 61", x.shut(0, 61), -2);
        check.due("tick NONE", x.shut(0, -6), -2);
        check.that("refused shut changes nothing", Say.state(x).equals(before));
    }

    private static void of() {
        ExitFlows x = Say.plan("fe64", "");
        check.due("from", x.of(0, 0), 5);
        check.due("to", x.of(0, 1), 4);
        check.due("width", x.of(0, 2), 6);
        check.due("length", x.of(0, 3), 4);
        check.due("shut", x.of(0, 4), -6);
        check.due("passage 1", x.of(1, 9), -1);
        check.due("passage -1", x.of(-1, 0), -1);
        check.due("what -1", x.of(0, -1), -2);
        check.due("what 5", x.of(0, 5), -2);
    }
}
