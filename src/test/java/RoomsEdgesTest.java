/** Each sentence of "Terms" 1 and of the promises 1 to 12 that names an edge, with a test of its own. */
public final class RoomsEdgesTest {
    private static final int UNKNOWN = -1, OUTSIDE = -2, FULL = -4, NONE = -6, FAULT = -7;
    private static final Check check = new Check();

    public static void main(String[] args) {
        nothingAtFirst();
        roomsAre0To5();
        people0To30();
        area1To99();
        roomAnswersPeopleThatItHad();
        safeIs0Or1();
        safeAnswersHowMany();
        upTo10Passages();
        fromARoomToAnother();
        severalMayBeAlike();
        width1To6();
        length1To4();
        widenAnswersWhichItWas();
        shut0To60OrNever();
        shutAnswersFromWhichItWas();
        neverShutAsItIsTold();
        signs33To126();
        upTo40Signs();
        wipeEmpties();
        noneOrMorePassagesHaveNoFault();
        placeOfTheFirstSignThatCanNotStand();
        moreMustCome();
        readComesBehind();
        readRefusesAFault();
        readRefusesMoreThan10();
        toldWhats();
        crowd();
        paceNotBelowATenth();
        ofWhats();
        check.end();
    }

    // ---- Promise 1

    private static void nothingAtFirst() {
        check.about("1: No PEOPLE, no PASSAGES, nothing is SAFE; THE PAD is empty; no IMAGE is kept");
        ExitFlows x = new ExitFlows();
        check.due("count(0)", x.count(0), 0);
        check.due("count(1)", x.count(1), 0);
        check.due("count(4)", x.count(4), 0);
        check.due("count(2)", x.count(2), 0);
        check.due("count(5)", x.count(5), 0);
        check.due("of(0, 0)", x.of(0, 0), UNKNOWN);
        check.due("door(0)", x.door(0), UNKNOWN);
        check.due("widen(0, 1)", x.widen(0, 1), UNKNOWN);
        check.due("shut(0, 0)", x.shut(0, 0), UNKNOWN);
        check.due("fault()", x.fault(), NONE);
        check.due("read()", x.read(), 0);
        check.due("out(0)", x.out(0), 0);
        check.due("out(60)", x.out(60), 0);
        check.due("last()", x.last(), 0);
        check.due("helps()", x.helps(), 0);
        check.due("needed()", x.needed(), 0);
        check.due("rush(200)", x.rush(200), 0);
        check.due("rushed()", x.rushed(), 0);
        // One object's state is not another's.
        x.room(0, 5, 5);
        x.safe(0, 1);
        x.passage(0, 1, 1, 1);
        x.say('a');
        x.image(0);
        check.that("a second object is new too", Say.state(new ExitFlows()).equals(Say.state(new ExitFlows())));
        check.due("passages of a second object", new ExitFlows().count(1), 0);
        check.due("people of a second object", new ExitFlows().count(0), 0);
    }

    // ---- Promise 2

    private static void roomsAre0To5() {
        check.about("Terms 1: ROOMS are 0 to 5");
        ExitFlows x = new ExitFlows();
        for (int room = -1; room <= 6; room++) {
            boolean is = room >= 0 && room <= 5;
            check.due("room(" + room + ", 1, 1)", x.room(room, 1, 1), is ? 0 : UNKNOWN);
            check.due("safe(" + room + ", 0)", x.safe(room, 0), is ? 0 : UNKNOWN);
            check.due("told(" + room + ", 0)", x.told(room, 0), is ? 1 : UNKNOWN);
        }
    }

    private static void people0To30() {
        check.about("2: PEOPLE, 0 to 30; OUTSIDE");
        ExitFlows x = new ExitFlows();
        x.room(3, 17, 8);
        check.due("room(3, -1, 9)", x.room(3, -1, 9), OUTSIDE);
        check.due("room(3, 31, 9)", x.room(3, 31, 9), OUTSIDE);
        check.due("people stay", x.told(3, 0), 17);
        check.due("the area stays too", x.told(3, 1), 8);
        check.due("room(3, 30, 8)", x.room(3, 30, 8), 17);
        check.due("room(3, 0, 8)", x.room(3, 0, 8), 30);
        check.due("told(3, 0)", x.told(3, 0), 0);
    }

    private static void area1To99() {
        check.about("2: AREA, 1 to 99 (10 at first); OUTSIDE");
        ExitFlows x = new ExitFlows();
        check.due("at first", x.told(4, 1), 10);
        check.due("room(4, 2, 0)", x.room(4, 2, 0), OUTSIDE);
        check.due("room(4, 2, -1)", x.room(4, 2, -1), OUTSIDE);
        check.due("room(4, 2, 100)", x.room(4, 2, 100), OUTSIDE);
        check.due("the area stays", x.told(4, 1), 10);
        check.due("people stay too", x.told(4, 0), 0);
        x.room(4, 2, 1);
        check.due("1", x.told(4, 1), 1);
        x.room(4, 2, 99);
        check.due("99", x.told(4, 1), 99);
    }

    private static void roomAnswersPeopleThatItHad() {
        check.about("2: PEOPLE that it had");
        ExitFlows x = new ExitFlows();
        check.due("first", x.room(1, 30, 10), 0);
        check.due("another room", x.room(0, 4, 10), 0);
        check.due("again", x.room(1, 7, 20), 30);
        check.due("the same", x.room(1, 7, 20), 7);
        check.due("then", x.room(1, 0, 30), 7);
    }

    // ---- Promise 3

    private static void safeIs0Or1() {
        check.about("3: SAFE (is = 1), or not (0); OUTSIDE");
        ExitFlows x = new ExitFlows();
        check.due("safe(2, -1)", x.safe(2, -1), OUTSIDE);
        check.due("safe(2, 2)", x.safe(2, 2), OUTSIDE);
        check.due("not safe", x.told(2, 2), 0);
        check.due("safe(2, 1)", x.safe(2, 1), 1);
        check.due("safe(2, -1), it is safe", x.safe(2, -1), OUTSIDE);
        check.due("safe(2, 2), it is safe", x.safe(2, 2), OUTSIDE);
        check.due("still safe", x.told(2, 2), 1);
    }

    private static void safeAnswersHowMany() {
        check.about("3: how many are");
        ExitFlows x = new ExitFlows();
        check.due("none, told not to be", x.safe(0, 0), 0);
        for (int room = 0; room < 6; room++) {
            check.due("safe(" + room + ", 1)", x.safe(room, 1), room + 1);
            check.due("told twice", x.safe(room, 1), room + 1);
        }
        for (int room = 0; room < 6; room++) {
            check.due("safe(" + room + ", 0)", x.safe(room, 0), 5 - room);
            check.due("told twice", x.safe(room, 0), 5 - room);
        }
    }

    // ---- Promises 4 and 5

    private static void upTo10Passages() {
        check.about("4: FULL: there are 10");
        ExitFlows x = new ExitFlows();
        for (int number = 0; number < 10; number++) {
            check.due("of(" + number + ", 0), before", x.of(number, 0), UNKNOWN);
            check.due("passage " + number, x.passage(0, 1, 1, 1), number);
        }
        check.due("the eleventh", x.passage(0, 1, 1, 1), FULL);
        check.due("the eleventh again", x.passage(4, 5, 6, 4), FULL);
        check.due("count(1)", x.count(1), 10);
        check.due("of(9, 1)", x.of(9, 1), 1);
        check.due("of(10, 1)", x.of(10, 1), UNKNOWN);
    }

    private static void fromARoomToAnother() {
        check.about("4: UNKNOWN: both ROOMS; OUTSIDE: they are one");
        ExitFlows x = new ExitFlows();
        int number = 0;
        for (int from = -1; from <= 6; from++) {
            for (int to = -1; to <= 6; to++) {
                boolean rooms = from >= 0 && from <= 5 && to >= 0 && to <= 5;
                int due = !rooms ? UNKNOWN : from == to ? OUTSIDE : number == 10 ? FULL : number;
                check.due("passage(" + from + ", " + to + ", 2, 3)", x.passage(from, to, 2, 3), due);
                number += due >= 0 ? 1 : 0;
            }
        }
    }

    private static void severalMayBeAlike() {
        check.about("Terms 1: several may be alike");
        ExitFlows x = new ExitFlows();
        check.due("one", x.passage(2, 4, 3, 2), 0);
        check.due("alike", x.passage(2, 4, 3, 2), 1);
        check.due("widen(0, 5)", x.widen(0, 5), 3);
        check.due("the other's width", x.of(1, 2), 3);
        check.due("shut(1, 7)", x.shut(1, 7), NONE);
        check.due("the one is never shut", x.of(0, 4), NONE);
    }

    private static void width1To6() {
        check.about("4, 5: WIDTH, 1 to 6; OUTSIDE");
        for (int width = -1; width <= 8; width++) {
            ExitFlows x = new ExitFlows();
            boolean is = width >= 1 && width <= 6;
            check.due("passage of width " + width, x.passage(0, 1, width, 1), is ? 0 : OUTSIDE);
            check.due("passages", x.count(1), is ? 1 : 0);
            ExitFlows y = Say.plan("ab31", "");
            check.due("widen(0, " + width + ")", y.widen(0, width), is ? 3 : OUTSIDE);
            check.due("width", y.of(0, 2), is ? width : 3);
        }
    }

    private static void length1To4() {
        check.about("4: LENGTH, 1 to 4; OUTSIDE");
        for (int length = -1; length <= 6; length++) {
            ExitFlows x = new ExitFlows();
            boolean is = length >= 1 && length <= 4;
            check.due("passage of length " + length, x.passage(0, 1, 1, length), is ? 0 : OUTSIDE);
            check.due("length", x.of(0, 3), is ? length : UNKNOWN);
        }
    }

    private static void widenAnswersWhichItWas() {
        check.about("5: WIDTH of a PASSAGE: which it was. UNKNOWN");
        ExitFlows x = Say.plan("ab11cd64", "");
        check.due("widen(1, 1)", x.widen(1, 1), 6);
        check.due("widen(1, 6)", x.widen(1, 6), 1);
        check.due("widen(1, 6), as it is", x.widen(1, 6), 6);
        check.due("widen(0, 2)", x.widen(0, 2), 1);
        check.due("widen(2, 1)", x.widen(2, 1), UNKNOWN);
        check.due("widen(-1, 1)", x.widen(-1, 1), UNKNOWN);
        check.due("the length stays", x.of(1, 3), 4);
    }

    // ---- Promise 6

    private static void shut0To60OrNever() {
        check.about("6: a TICK, 0 to 60 (-1: never); OUTSIDE");
        ExitFlows x = Say.plan("ab11", "");
        int before = NONE;
        for (int tick = -8; tick <= 63; tick++) {
            boolean is = tick >= -1 && tick <= 60;
            check.due("shut(0, " + tick + ")", x.shut(0, tick), is ? before : OUTSIDE);
            before = !is ? before : tick == -1 ? NONE : tick;
            check.due("of(0, 4)", x.of(0, 4), before);
            check.due("count(3)", x.count(3), before == NONE ? 0 : 1);
        }
    }

    private static void shutAnswersFromWhichItWas() {
        check.about("6: from which it was (NONE: never). UNKNOWN");
        ExitFlows x = Say.plan("ab11bc11", "");
        check.due("shut(1, -1), never before", x.shut(1, -1), NONE);
        check.due("shut(1, 0)", x.shut(1, 0), NONE);
        check.due("shut(1, 60)", x.shut(1, 60), 0);
        check.due("shut(1, 60), as it is", x.shut(1, 60), 60);
        check.due("shut(1, -1)", x.shut(1, -1), 60);
        check.due("shut(1, 5)", x.shut(1, 5), NONE);
        check.due("shut(2, 0)", x.shut(2, 0), UNKNOWN);
        check.due("shut(-1, 0)", x.shut(-1, 0), UNKNOWN);
        check.due("the other", x.of(0, 4), NONE);
    }

    private static void neverShutAsItIsTold() {
        check.about("Terms 1: or never (as it is told)");
        ExitFlows x = new ExitFlows();
        x.image(0);
        Say.text(x, "ab11cd22");
        x.read();
        x.shut(0, 0);
        x.shut(1, 60);
        // The places of passages that were shut are used again by others.
        x.restore(0);
        x.passage(2, 3, 1, 1);
        Say.text(x, "ef11");
        x.read();
        check.due("told by passage", x.of(0, 4), NONE);
        check.due("told by the pad", x.of(1, 4), NONE);
        check.due("count(3)", x.count(3), 0);
    }

    // ---- Promises 7 and 8

    private static void signs33To126() {
        check.about("7: OUTSIDE: it is not 33 to 126");
        for (int sign = -2; sign <= 300; sign++) {
            ExitFlows x = new ExitFlows();
            boolean is = sign >= 33 && sign <= 126;
            check.due("say(" + sign + ")", x.say(sign), is ? 1 : OUTSIDE);
            check.due("signs", x.count(2), is ? 1 : 0);
        }
    }

    private static void upTo40Signs() {
        check.about("7: how many; FULL: there are 40");
        ExitFlows x = new ExitFlows();
        for (int number = 1; number <= 40; number++) {
            check.due("sign " + number, x.say("ab11".charAt((number - 1) % 4)), number);
        }
        check.due("sign 41", x.say('a'), FULL);
        check.due("sign 41 again", x.say('~'), FULL);
        check.due("signs", x.count(2), 40);
        check.due("the signs are as they were", x.read(), 10);
        check.due("the first of an empty pad", x.say('a'), 1);
        check.due("wipe", x.wipe(), 1);
        Say.text(x, "!".repeat(40));
        check.due("full again", x.say('!'), FULL);
        check.due("wipe a full pad", x.wipe(), 40);
        check.due("the first again", x.say('!'), 1);
    }

    private static void wipeEmpties() {
        check.about("8: THE PAD is empty: how many signs it had");
        ExitFlows x = new ExitFlows();
        check.due("of an empty pad", x.wipe(), 0);
        Say.text(x, "a");
        check.due("of one sign", x.wipe(), 1);
        check.due("of none again", x.wipe(), 0);
        Say.text(x, "zz11".repeat(10));
        check.due("of forty", x.wipe(), 40);
        check.due("signs", x.count(2), 0);
        check.due("no fault is left", x.fault(), NONE);
        check.due("no passage came of it", x.read(), 0);
        Say.text(x, "ab");
        check.due("old signs do not come back", x.fault(), 2);
    }

    // ---- Promises 9 and 10

    private static void noneOrMorePassagesHaveNoFault() {
        check.about("9: THE PAD tells PASSAGES, none or more: NONE");
        for (int number = 0; number <= 10; number++) {
            ExitFlows x = new ExitFlows();
            Say.text(x, "fa64".repeat(number));
            check.due(number + " passages", x.fault(), NONE);
        }
        for (char from = 'a'; from <= 'f'; from++) {
            for (char to = 'a'; to <= 'f'; to++) {
                ExitFlows x = new ExitFlows();
                Say.text(x, "" + from + to + "11");
                check.due("" + from + to + "11", x.fault(), from == to ? 1 : NONE);
            }
        }
        for (int width = 0; width <= 9; width++) {
            for (int length = 0; length <= 9; length++) {
                ExitFlows x = new ExitFlows();
                Say.text(x, "ab" + width + length);
                int due = width < 1 || width > 6 ? 2 : length < 1 || length > 4 ? 3 : NONE;
                check.due("ab" + width + length, x.fault(), due);
            }
        }
    }

    private static void placeOfTheFirstSignThatCanNotStand() {
        check.about("9: the place, from 0 on, of the first sign that can not stand there");
        String good = "ab11cd62ef34fe43da21cb52ac11bd11ce22df33";
        for (int place = 0; place < 40; place++) {
            ExitFlows x = new ExitFlows();
            Say.text(x, good.substring(0, place) + "!" + good.substring(place + 1));
            check.due("'!' at " + place, x.fault(), place);
            ExitFlows y = new ExitFlows();
            Say.text(y, good.substring(0, place) + "!".repeat(40 - place));
            check.due("'!' from " + place + " on", y.fault(), place);
        }
        for (int place = 1; place < 40; place += 4) {
            ExitFlows x = new ExitFlows();
            Say.text(x, good.substring(0, place) + good.charAt(place - 1) + good.substring(place + 1));
            check.due("the same room twice, at " + place, x.fault(), place);
        }
        ExitFlows z = new ExitFlows();
        Say.text(z, "AB11");
        check.due("great letters are no rooms", z.fault(), 0);
    }

    private static void moreMustCome() {
        check.about("9: and more must come, how many signs it has");
        ExitFlows x = new ExitFlows();
        for (int size = 1; size <= 40; size++) {
            x.say("fe41".charAt((size - 1) % 4));
            check.due(size + " signs", x.fault(), size % 4 == 0 ? NONE : size);
        }
    }

    private static void readComesBehind() {
        check.about("10: PASSAGES that THE PAD tells, which is empty then, come behind: how many there are");
        ExitFlows x = new ExitFlows();
        check.due("read of an empty pad", x.read(), 0);
        x.passage(4, 5, 6, 1);
        check.due("read of an empty pad behind one", x.read(), 1);
        Say.text(x, "ab64fe13");
        check.due("read of two behind one", x.read(), 3);
        check.due("the pad is empty", x.count(2), 0);
        check.due("read again", x.read(), 3);
        int[][] due = {{4, 5, 6, 1}, {0, 1, 6, 4}, {5, 4, 1, 3}};
        for (int passage = 0; passage < 3; passage++) {
            for (int what = 0; what < 4; what++) {
                check.due("of(" + passage + ", " + what + ")", x.of(passage, what), due[passage][what]);
            }
        }
        check.due("the next", x.passage(0, 1, 1, 1), 3);
    }

    private static void readRefusesAFault() {
        check.about("10: FAULT");
        for (String pad : new String[] {"a", "ab", "ab1", "ab11c", "aa11", "ab71", "ab15", "gb11", "ab11cd1!"}) {
            ExitFlows x = Say.plan("cd22", "");
            Say.text(x, pad);
            check.due("read of " + pad, x.read(), FAULT);
            check.due("no passage of " + pad, x.count(1), 1);
            check.due("signs of " + pad, x.count(2), pad.length());
        }
        ExitFlows x = new ExitFlows();
        Say.text(x, "ab1");
        check.due("read before the last sign", x.read(), FAULT);
        x.say('1');
        check.due("read with it", x.read(), 1);
    }

    private static void readRefusesMoreThan10() {
        check.about("10: FULL: there would be more than 10");
        for (int there = 0; there <= 10; there++) {
            for (int more = 0; more <= 10; more++) {
                ExitFlows x = Say.plan("cd22".repeat(there), "");
                Say.text(x, "fa13".repeat(more));
                boolean fits = there + more <= 10;
                check.due("read of " + more + " behind " + there, x.read(), fits ? there + more : FULL);
                check.due("passages", x.count(1), fits ? there + more : there);
                check.due("signs", x.count(2), fits ? 0 : 4 * more);
            }
        }
    }

    // ---- Promises 11 and 12

    private static void toldWhats() {
        check.about("11: what = 0 to 4. UNKNOWN; OUTSIDE");
        ExitFlows x = new ExitFlows();
        x.room(5, 3, 2);
        x.safe(5, 1);
        int[] due = {OUTSIDE, 3, 2, 1, Float.floatToIntBits(1.5f), Float.floatToIntBits(1.34f - 0.375f), OUTSIDE};
        for (int what = -1; what <= 5; what++) {
            check.due("told(5, " + what + ")", x.told(5, what), due[what + 1]);
            check.due("told(6, " + what + ")", x.told(6, what), UNKNOWN);
            check.due("told(-1, " + what + ")", x.told(-1, what), UNKNOWN);
        }
    }

    private static void crowd() {
        check.about("Terms 1: CROWD: PEOPLE divided by AREA, both as floats");
        ExitFlows x = new ExitFlows();
        x.room(0, 0, 99);
        check.due("0 by 99", x.told(0, 3), 0);
        x.room(0, 30, 1);
        check.due("30 by 1: 0x41F00000", x.told(0, 3), 0x41F00000);
        x.room(0, 1, 99);
        check.due("1 by 99: 0x3C257EB5", x.told(0, 3), 0x3C257EB5);
        x.room(0, 1, 3);
        check.due("1 by 3: 0x3EAAAAAB, rounded up", x.told(0, 3), 0x3EAAAAAB);
        x.room(0, 2, 1);
        check.due("2 by 1: 0x40000000", x.told(0, 3), 0x40000000);
        x.room(0, 16, 16);
        check.due("16 by 16: 0x3F800000", x.told(0, 3), 0x3F800000);
    }

    private static void paceNotBelowATenth() {
        check.about("Terms 1: PACE: if that is less than 0.1, 0.1");
        int tenth = 0x3DCCCCCD;
        ExitFlows x = new ExitFlows();
        x.room(0, 0, 1);
        check.due("nobody: 1.34", x.told(0, 4), 0x3FAB851F);
        x.room(0, 29, 6);
        check.due("29 on 6: the slowest above", x.told(0, 4), Float.floatToIntBits(1.34f - 0.25f * (29f / 6f)));
        check.that("29 on 6 is above a tenth", x.told(0, 4) > tenth);
        x.room(0, 30, 6);
        check.due("30 on 6: the first below", x.told(0, 4), tenth);
        x.room(0, 5, 1);
        check.due("5 on 1", x.told(0, 4), tenth);
        x.room(0, 30, 5);
        check.due("30 on 5, less than nothing", x.told(0, 4), tenth);
        x.room(0, 30, 1);
        check.due("30 on 1", x.told(0, 4), tenth);
    }

    private static void ofWhats() {
        check.about("12: what = 0 to 4 (NONE: never). UNKNOWN; OUTSIDE");
        ExitFlows x = Say.plan("ab11fa64", "");
        int[] due = {OUTSIDE, 5, 0, 6, 4, NONE, OUTSIDE};
        for (int what = -1; what <= 5; what++) {
            check.due("of(1, " + what + ")", x.of(1, what), due[what + 1]);
            check.due("of(2, " + what + ")", x.of(2, what), UNKNOWN);
            check.due("of(-1, " + what + ")", x.of(-1, what), UNKNOWN);
        }
        x.shut(1, 0);
        check.due("shut from 0 on", x.of(1, 4), 0);
        x.shut(1, 60);
        check.due("shut from 60 on", x.of(1, 4), 60);
        x.shut(1, -1);
        check.due("never again", x.of(1, 4), NONE);
    }
}
