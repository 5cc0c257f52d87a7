/** Each sentence of "Terms" 2 and of the promises 13 to 17 that names an edge, with a test of its own. */
public final class OutEdgesTest {
    private static final int UNKNOWN = -1, OUTSIDE = -2, NONE = -6;
    private static final Check check = new Check();

    public static void main(String[] args) {
        shutFromThatTickOrAnEarlierOne();
        noMoreThanItsWidthAtOneTick();
        goesOnAtThatSameTick();
        asManyCanWaitAsLikeTo();
        whoIsInASafeRoomStays();
        ticks0To60();
        goingAsIsBestForAll();
        atTick0();
        atTick60();
        lastIsLeast();
        lastNone();
        helpsOf6Is7();
        helpsWhereThereIsNoLast();
        helpsNot();
        neededMoreOrNone();
        neededShutAlready();
        neededNone();
        doorLeast();
        doorInPlaceOfWhenItIsShutNow();
        doorAtItsMost();
        doorNone();
        doorUnknown();
        check.end();
    }

    private static ExitFlows plan(String passages, String safe, int inA) {
        ExitFlows x = Say.plan(passages, safe);
        x.room(0, inA, 1);
        return x;
    }

    // ---- Terms 2

    private static void shutFromThatTickOrAnEarlierOne() {
        check.about("Terms 2: unless it is SHUT from that TICK or an earlier one on");
        ExitFlows x = plan("ab14", "b", 30);
        check.due("never shut", x.out(60), 30);
        for (int tick = 0; tick <= 60; tick++) {
            x.shut(0, tick);
            check.due("shut from " + tick + " on", x.out(60), Math.min(30, tick));
            check.due("by tick 10, shut from " + tick + " on", x.out(10), Math.min(7, tick));
        }
        x.shut(0, 1);
        check.due("who is inside comes through", x.out(4), 1);
    }

    private static void noMoreThanItsWidthAtOneTick() {
        check.about("Terms 2: no more than its WIDTH can at one TICK");
        for (int width = 1; width <= 6; width++) {
            ExitFlows x = plan("ab" + width + "2", "b", 30);
            for (int tick = 0; tick <= 60; tick++) {
                check.due("width " + width + ", out(" + tick + ")", x.out(tick),
                    Math.min(30, width * Math.max(0, tick - 1)));
            }
        }
        ExitFlows y = plan("ab22ab32", "b", 30);
        check.due("two passages, each with its own", y.out(2), 5);
    }

    private static void goesOnAtThatSameTick() {
        check.about("Terms 2: is in the ROOM at TICK t and LENGTH (and can go on at that same TICK)");
        ExitFlows x = plan("ab11bc12cd13de14ef11", "f", 1);
        check.due("out(10)", x.out(10), 0);
        check.due("out(11)", x.out(11), 1);
        check.due("last()", x.last(), 11);
        x.shut(4, 10);
        check.due("the last one shuts just then", x.out(60), 0);
        x.shut(4, 11);
        check.due("the last one shuts a tick later", x.out(60), 1);
    }

    private static void asManyCanWaitAsLikeTo() {
        check.about("Terms 2: In a ROOM as many can wait as like to");
        ExitFlows x = Say.plan("ae61be61ce61de61ef61", "f");
        for (int room = 0; room < 5; room++) {
            x.room(room, 30, 1);
        }
        check.due("last()", x.last(), 25);
        check.due("out(24)", x.out(24), 144);
        for (int passage = 0; passage < 4; passage++) {
            x.shut(passage, 5);
        }
        check.due("all wait in e from tick 6 on: last()", x.last(), 25);
        x.shut(0, 4);
        check.due("six are left behind", x.out(60), 144);
    }

    private static void whoIsInASafeRoomStays() {
        check.about("Terms 2: Who is in a SAFE ROOM stays there");
        ExitFlows x = Say.plan("ba11bc11", "b");
        x.room(1, 30, 1);
        for (int tick = 0; tick <= 60; tick += 20) {
            check.due("out(" + tick + ")", x.out(tick), 30);
        }
        // Only a way through a safe room leads to c: nobody is needed there, and nobody can come there.
        ExitFlows y = plan("ab12bc11", "bc", 3);
        check.due("last()", y.last(), 4);
        check.due("needed()", y.needed(), 1);
        check.due("helps()", y.helps(), 1);
        check.due("door(1)", y.door(1), 0);
    }

    // ---- Promise 13

    private static void ticks0To60() {
        check.about("13: OUTSIDE: it is not 0 to 60");
        ExitFlows x = plan("ab11", "b", 30);
        for (int tick = -3; tick <= 64; tick++) {
            check.due("out(" + tick + ")", x.out(tick), tick < 0 || tick > 60 ? OUTSIDE : Math.min(30, tick));
        }
    }

    private static void goingAsIsBestForAll() {
        check.about("Terms 2: the most PEOPLE, all together, each going as is best for that");
        // By c it is shorter for a, but b has no other way.
        ExitFlows x = plan("ac11cf11bc11ad11df12", "f", 1);
        x.room(1, 1, 1);
        check.due("out(2)", x.out(2), 1);
        check.due("out(3)", x.out(3), 2);
        x.shut(1, 2);
        check.due("c's way shut from 2 on", x.out(3), 2);
        // For each tick what is best for it: few soon, or more later.
        ExitFlows y = plan("ab11ab64", "b", 9);
        int[] due = {0, 1, 2, 3, 9, 9};
        for (int tick = 0; tick < due.length; tick++) {
            check.due("out(" + tick + ") of nine", y.out(tick), due[tick]);
        }
    }

    private static void atTick0() {
        check.about("13: OUT by TICK 0: who is in a SAFE ROOM already");
        ExitFlows x = plan("ab61", "b", 30);
        check.due("nobody", x.out(0), 0);
        x.room(1, 4, 1);
        check.due("four", x.out(0), 4);
        x.safe(0, 1);
        check.due("all", x.out(0), 34);
        check.due("last()", x.last(), 0);
    }

    private static ExitFlows line(int inA, int inC) {
        ExitFlows x = plan("ca11ab14", "b", inA);
        x.room(2, inC, 1);
        return x;
    }

    private static void atTick60() {
        check.about("13: OUT by TICK 60: who comes at 60 is out, who would at 61 is not");
        ExitFlows x = line(30, 30);
        check.due("out(60)", x.out(60), 57);
        check.due("out(59)", x.out(59), 56);
        x.shut(1, 57);
        check.due("shut when it is too late", x.out(60), 57);
        x.shut(1, 56);
        check.due("shut for the last", x.out(60), 56);
    }

    // ---- Promise 14

    private static void lastIsLeast() {
        check.about("14: the least TICK, 0 to 60, by which all PEOPLE can be");
        ExitFlows x = plan("ab14", "b", 0);
        check.due("nobody", x.last(), 0);
        x.room(1, 30, 1);
        check.due("all are there", x.last(), 0);
        for (int people = 1; people <= 30; people++) {
            x.room(0, people, 1);
            check.due(people + " people", x.last(), people + 3);
        }
        check.due("one less", line(30, 26).last(), 59);
        check.due("at the edge", line(30, 27).last(), 60);
    }

    private static void lastNone() {
        check.about("14: NONE: there is none such");
        check.due("one too many for 60 ticks", line(30, 28).last(), NONE);
        ExitFlows x = plan("ab11", "", 1);
        check.due("nothing is safe", x.last(), NONE);
        x.safe(2, 1);
        check.due("no way leads there", x.last(), NONE);
        x.safe(1, 1);
        check.due("a way leads there", x.last(), 1);
        x.shut(0, 0);
        check.due("it is shut", x.last(), NONE);
        x.safe(0, 1);
        check.due("where they are it is safe", x.last(), 0);
        ExitFlows y = Say.plan("ba11", "b");
        y.room(0, 1, 1);
        check.due("it leads the wrong way", y.last(), NONE);
    }

    // ---- Promise 15

    private static void helpsOf6Is7() {
        check.about("15: 1 wider (of 6: 7), makes LAST less");
        ExitFlows x = plan("ab64", "b", 7);
        check.due("7 go by 7", x.helps(), 1);
        x.room(0, 8, 1);
        check.due("8 do not", x.helps(), 0);
        x.room(0, 6, 1);
        check.due("6 go by 6", x.helps(), 0);
        x.room(0, 14, 1);
        check.due("14 go by twice 7", x.helps(), 1);
        check.due("the width is as it was", x.of(0, 2), 6);
        ExitFlows y = plan("ab14", "b", 30);
        check.due("1 wider, not more", y.helps(), 1);
        check.due("its width is as it was", y.of(0, 2), 1);
    }

    private static void helpsWhereThereIsNoLast() {
        check.about("15: or that there is a LAST where there is none");
        check.due("58 by tick 60", line(30, 28).helps(), 2);
        // c's thirty come one by one till tick 30, so all are in a soon enough for two at a time.
        check.due("60 by tick 60", line(30, 30).helps(), 2);
        ExitFlows x = plan("ab11ab12", "b", 3);
        x.shut(0, 1);
        x.shut(1, 1);
        check.due("either makes one", x.helps(), 3);
        x.room(0, 4, 1);
        check.due("neither alone does", x.helps(), 0);
        x.shut(0, 0);
        x.room(0, 2, 1);
        check.due("a passage never open does not", x.helps(), 2);
        x.safe(1, 0);
        check.due("nothing is safe", x.helps(), 0);
    }

    private static void helpsNot() {
        check.about("15: a set, empty where none does");
        check.due("no passages, nobody", new ExitFlows().helps(), 0);
        check.due("nobody", plan("ab11", "b", 0).helps(), 0);
        check.due("LAST is 0", plan("ab11", "ab", 30).helps(), 0);
        check.due("as soon as the length lets", plan("ab14", "b", 1).helps(), 0);
        check.due("each of two alone is too little", plan("ab11bc11", "c", 2).helps(), 0);
        check.due("no passages, somebody", plan("", "b", 1).helps(), 0);
    }

    // ---- Promise 16

    private static void neededMoreOrNone() {
        check.about("16: without each of which alone LAST is more, or none");
        ExitFlows x = plan("ab12ab14", "b", 1);
        check.due("it is more", x.needed(), 1);
        check.due("it is none", plan("ab12", "b", 1).needed(), 1);
        check.due("it is as it was", plan("ab12ab12", "b", 1).needed(), 0);
        check.due("both are", plan("ab12ab12", "b", 2).needed(), 3);
        check.due("a chain", plan("ab11bc11cd11", "d", 1).needed(), 7);
        check.due("a chain and a side way", plan("ab11bc11cd11be11", "d", 1).needed(), 7);
        check.due("nothing is shut by it", x.count(3), 0);
        ExitFlows y = line(30, 27);
        y.passage(0, 1, 1, 4);
        check.due("LAST with two exits", y.last(), 32);
        check.due("either exit is, and the way to them", y.needed(), 7);
    }

    private static void neededShutAlready() {
        check.about("16: (SHUT from TICK 0 on)");
        ExitFlows x = plan("ab11ab11", "b", 1);
        x.shut(0, 0);
        check.due("one is shut from 0 on already", x.needed(), 2);
        x.shut(0, 1);
        check.due("one is shut from 1 on", x.needed(), 0);
        x.shut(1, 1);
        x.room(0, 2, 1);
        check.due("both are, with two people", x.needed(), 3);
        check.due("it stays shut from 1 on", x.of(0, 4), 1);
    }

    private static void neededNone() {
        check.about("16: NONE: there is no LAST with all");
        check.due("one too many for 60 ticks", line(30, 28).needed(), NONE);
        check.due("none too many", line(30, 27).needed(), 3);
        check.due("nothing is safe", plan("ab11", "", 1).needed(), NONE);
        check.due("no passages", plan("", "b", 1).needed(), NONE);
        check.due("nobody: LAST is 0", plan("ab11", "", 0).needed(), 0);
        check.due("all are safe", plan("ab11", "a", 30).needed(), 0);
    }

    // ---- Promise 17

    private static void doorLeast() {
        check.about("17: The least TICK, 0 to 60, such that LAST is as it is");
        ExitFlows x = plan("ab14", "b", 1);
        for (int people = 0; people <= 30; people++) {
            x.room(0, people, 1);
            check.due(people + " people", x.door(0), people);
        }
        ExitFlows y = plan("ab11ab11", "b", 5);
        check.due("three by the one, two by the other", y.door(0), 2);
        check.due("and the other way round", y.door(1), 2);
        check.due("nothing is shut by it", y.count(3), 0);
        ExitFlows z = line(30, 27);
        check.due("c's people go early", z.door(0), 27);
        check.due("a's go all the time", z.door(1), 57);
        check.due("nobody uses it", plan("ab11cd11", "b", 3).door(1), 0);
    }

    private static void doorInPlaceOfWhenItIsShutNow() {
        check.about("17: (in place of when it is SHUT now)");
        ExitFlows x = plan("ab11ab12", "b", 5);
        check.due("last()", x.last(), 3);
        check.due("never shut", x.door(0), 3);
        x.shut(0, 60);
        check.due("shut from 60 on", x.door(0), 3);
        x.shut(0, 1);
        check.due("last(), shut from 1 on", x.last(), 5);
        check.due("shut from 1 on: LAST is another by 0, and by 2", x.door(0), 1);
        x.shut(0, 0);
        check.due("last(), shut from 0 on", x.last(), 6);
        check.due("shut from 0 on", x.door(0), 0);
        check.due("it stays shut from 0 on", x.of(0, 4), 0);
        check.due("the other", x.door(1), 5);
    }

    private static void doorAtItsMost() {
        check.about("17: 0 to 60: at its most");
        ExitFlows x = plan("ca11ab11", "b", 30);
        x.room(2, 30, 1);
        check.due("last()", x.last(), 60);
        check.due("the last goes at 59", x.door(1), 60);
        x.shut(1, 60);
        check.due("shut from 60 on", x.door(1), 60);
        x.shut(1, 59);
        check.due("shut from 59 on", x.door(1), NONE);
    }

    private static void doorNone() {
        check.about("17: NONE: there is no LAST");
        ExitFlows x = line(30, 28);
        check.due("door(0)", x.door(0), NONE);
        check.due("door(1)", x.door(1), NONE);
        ExitFlows y = plan("ab11", "b", 1);
        y.shut(0, 0);
        check.due("open there would be one", y.door(0), NONE);
        check.due("LAST is 0: door(0)", plan("ab11", "b", 0).door(0), 0);
    }

    private static void doorUnknown() {
        check.about("17: UNKNOWN");
        ExitFlows x = plan("ab11", "b", 1);
        check.due("door(-1)", x.door(-1), UNKNOWN);
        check.due("door(0)", x.door(0), 1);
        check.due("door(1)", x.door(1), UNKNOWN);
        ExitFlows y = plan("ab11".repeat(10), "b", 10);
        check.due("door(9) of ten", y.door(9), 1);
        check.due("door(10) of ten", y.door(10), UNKNOWN);
    }
}
