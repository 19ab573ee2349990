import java.util.function.Supplier;
import java.util.function.ToIntFunction;

/**
 * The ranges of every call's arguments, promises 3 to 16: the last values that are in, the first that
 * are out, and that a refused call answers as the document says and changes nothing.
 */
public final class ArgumentEdgeTest {
    private static final Check CHECK = new Check();
    private static final int BAD = PlatformDoors.BAD;
    private static final int LEAST = Integer.MIN_VALUE, MOST = Integer.MAX_VALUE;
    private static final int[] NO_SIDES = {-1, 2, LEAST, MOST};
    private static final int[] NO_LEAVES = {-1, 8, LEAST, MOST};

    public static void main(String[] args) {
        noSuchSide();
        noSuchLeaf();
        step();
        arrivePlace();
        arriveSpeed();
        error();
        command();
        isolate();
        release();
        obstruct();
        contactWhich();
        contactHow();
        deliverNoneSuch();
        dropNoneSuch();
        twinNoneSuch();
        twinOfTwelve();
        frameNoneSuch();
        frameWhich();
        leafWhich();
        toldWhich();
        CHECK.end();
    }

    private static void refused(String what, ToIntFunction<PlatformDoors> call) {
        Picture.refused(CHECK, what, Scenes::busy, call, BAD);
    }

    private static void refusedAtFirst(String what, ToIntFunction<PlatformDoors> call) {
        Picture.refused(CHECK, what, PlatformDoors::new, call, BAD);
    }

    private static void noSuchSide() {
        for (int side : NO_SIDES) {
            String at = "(" + side + ", ..)";
            refused("step" + at, doors -> doors.step(side, 1));
            refused("isolate on" + at, doors -> doors.isolate(side, 0, true));
            refused("isolate off" + at, doors -> doors.isolate(side, 1, false));
            refused("isolate off" + at, doors -> doors.isolate(side, 6, false));
            refused("release on" + at, doors -> doors.release(side, 0, true));
            refused("release off" + at, doors -> doors.release(side, 2, false));
            refused("obstruct" + at, doors -> doors.obstruct(side, 3, 9));
            refused("contact" + at, doors -> doors.contact(side, 0, 0, 2));
            refused("deliver" + at, doors -> doors.deliver(side, 0));
            refused("drop" + at, doors -> doors.drop(side, 0));
            refused("twin" + at, doors -> doors.twin(side, 0));
            refused("frame" + at, doors -> doors.frame(side, 0, 0));
            refused("leaf" + at, doors -> doors.leaf(side, 0, 0));
            refused("told" + at, doors -> doors.told(side, 0));
        }
    }

    /** "LEAVES 0 .. 7". */
    private static void noSuchLeaf() {
        for (int side = 0; side < 2; side++) {
            int at = side;
            for (int leaf : NO_LEAVES) {
                String where = "(" + side + ", " + leaf + ", ..)";
                refused("isolate on" + where, doors -> doors.isolate(at, leaf, true));
                refused("isolate off" + where, doors -> doors.isolate(at, leaf, false));
                refused("release on" + where, doors -> doors.release(at, leaf, true));
                refused("release off" + where, doors -> doors.release(at, leaf, false));
                refused("obstruct" + where, doors -> doors.obstruct(at, leaf, 9));
                refused("contact" + where, doors -> doors.contact(at, leaf, 0, 2));
                refused("leaf" + where, doors -> doors.leaf(at, leaf, 0));
            }
            PlatformDoors doors = new PlatformDoors();
            CHECK.due("leaf 0 of " + side, doors.leaf(side, 0, 2), 1);
            CHECK.due("leaf 7 of " + side, doors.leaf(side, 7, 2), 1);
        }
    }

    /** "Steps of a side, 1 .. 500". */
    private static void step() {
        for (int side = 0; side < 2; side++) {
            int at = side;
            for (int many : new int[] {0, 501, -1, LEAST, MOST}) {
                refused("step(" + side + ", " + many + ")", doors -> doors.step(at, many));
                refusedAtFirst("step(" + side + ", " + many + ")", doors -> doors.step(at, many));
            }
            PlatformDoors doors = new PlatformDoors();
            CHECK.due("the fewest steps", doors.step(side, 1), 1);
            CHECK.due("the most steps", doors.step(side, 500), 501);
            CHECK.due("steps in all", doors.told(side, 0), 501);
            CHECK.due("the other side's", doors.told(1 - side, 0), 0);
        }
    }

    /** As in the busy scene: 120 beyond the mark, error 30, at rest for many steps. */
    private static void dueReady(String when, PlatformDoors doors, boolean want) {
        CHECK.due("READY " + when, doors.told(0, 6), want ? 1 : 0);
    }

    /** "somewhere else, -2,000,000 .. 2,000,000". */
    private static void arrivePlace() {
        for (int place : new int[] {2000001, -2000001, LEAST, MOST, MOST - 1000, LEAST + 1000}) {
            refused("arrive(" + place + ", 0)", doors -> doors.arrive(place, 0));
            refused("arrive(" + place + ", 30000)", doors -> doors.arrive(place, 30000));
        }
        for (int place : new int[] {2000000, -2000000}) {
            PlatformDoors doors = Scenes.busy();
            dueReady("before it goes to " + place, doors, true);
            CHECK.due("arrive(" + place + ", 0)", doors.arrive(place, 0), 0);
            dueReady("at " + place, doors, false);
            for (int e : new int[] {1000, -1000}) {
                doors.error(e);
                dueReady("at " + place + " with error " + e, doors, false);
            }
        }
    }

    /** "with a speed of 0 .. 30,000". */
    private static void arriveSpeed() {
        for (int speed : new int[] {-1, 30001, LEAST, MOST}) {
            refused("arrive(0, " + speed + ")", doors -> doors.arrive(0, speed));
            refused("arrive(2000000, " + speed + ")", doors -> doors.arrive(2000000, speed));
            refused("arrive(2000001, " + speed + ")", doors -> doors.arrive(2000001, speed));
        }
        for (int speed : new int[] {0, 1, 30000}) {
            PlatformDoors doors = Scenes.busy();
            CHECK.due("arrive(0, " + speed + ")", doors.arrive(0, speed), 0);
            doors.step(0, 1);
            dueReady("behind a step with speed " + speed, doors, speed == 0);
        }
    }

    /** "Another error, - 1,000 .. 1,000 ... BAD (here - 2,000)". */
    private static void error() {
        for (int e : new int[] {1001, -1001, -2000, LEAST, MOST}) {
            Picture.refused(CHECK, "error(" + e + ")", Scenes::busy, doors -> doors.error(e), -2000);
            Picture.refused(CHECK, "error(" + e + ")", PlatformDoors::new, doors -> doors.error(e), -2000);
        }
        PlatformDoors doors = new PlatformDoors();
        CHECK.due("error(1000)", doors.error(1000), 0);
        CHECK.due("error(-1000)", doors.error(-1000), 1000);
        CHECK.due("error(-1), the value of BAD", doors.error(-1), -1000);
        CHECK.due("error(0)", doors.error(0), -1);
    }

    /** "Another COMMAND: to open or not": the same one again is fine too. */
    private static void command() {
        PlatformDoors doors = new PlatformDoors();
        CHECK.due("to close at first", doors.command(false), false);
        CHECK.due("to close, again", doors.command(true), false);
        CHECK.due("to open", doors.command(true), true);
        CHECK.due("to open, again", doors.command(false), true);
        CHECK.due("to close at last", doors.command(false), false);
    }

    private static void isolate() {
        for (int side = 0; side < 2; side++) {
            for (int leaf : new int[] {0, 7}) {
                PlatformDoors doors = new PlatformDoors();
                CHECK.due("isolate", doors.isolate(side, leaf, true), 0);
                CHECK.due("the other side's", doors.isolate(1 - side, leaf, false), 0);
                CHECK.due("the other end's", doors.isolate(side, 7 - leaf, false), 0);
                CHECK.due("isolate again", doors.isolate(side, leaf, true), 1);
                doors.step(side, 5);
                CHECK.due("its bit", doors.frame(1 - side, 0, 3), leaf == 0 ? 1 : 128);
                CHECK.due("not any more", doors.isolate(side, leaf, false), 1);
                CHECK.due("not any more, again", doors.isolate(side, leaf, false), 0);
            }
        }
    }

    private static void release() {
        for (int side = 0; side < 2; side++) {
            for (int leaf : new int[] {0, 7}) {
                PlatformDoors doors = new PlatformDoors();
                CHECK.due("release", doors.release(side, leaf, true), 0);
                CHECK.due("the other side's", doors.release(1 - side, leaf, false), 0);
                CHECK.due("the other end's", doors.release(side, 7 - leaf, false), 0);
                CHECK.due("release again", doors.release(side, leaf, true), 1);
                CHECK.due("not any more", doors.release(side, leaf, false), 1);
                CHECK.due("not any more, again", doors.release(side, leaf, false), 0);
            }
        }
    }

    /** "so many steps of its side, 0 .. 1,000". */
    private static void obstruct() {
        for (int side = 0; side < 2; side++) {
            int at = side;
            for (int steps : new int[] {-1, 1001, LEAST, MOST}) {
                refused("obstruct(" + side + ", 3, " + steps + ")", doors -> doors.obstruct(at, 3, steps));
                refused("obstruct(" + side + ", 0, " + steps + ")", doors -> doors.obstruct(at, 0, steps));
            }
            for (int leaf : new int[] {0, 7}) {
                PlatformDoors doors = new PlatformDoors();
                CHECK.due("obstruct for 0", doors.obstruct(side, leaf, 0), 0);
                CHECK.due("obstruct for 1000", doors.obstruct(side, leaf, 1000), 0);
                CHECK.due("obstructed", doors.leaf(side, leaf, 7), 1000);
                CHECK.due("the other side's", doors.leaf(1 - side, leaf, 7), 0);
                doors.step(side, 1);
                CHECK.due("a step less", doors.obstruct(side, leaf, 0), 999);
                CHECK.due("no more", doors.leaf(side, leaf, 7), 0);
            }
        }
    }

    /** "A contact (0, 1) of a leaf". */
    private static void contactWhich() {
        for (int side = 0; side < 2; side++) {
            int at = side;
            for (int which : new int[] {-1, 2, LEAST, MOST}) {
                refused("contact(" + side + ", 0, " + which + ", 1)", doors -> doors.contact(at, 0, which, 1));
                refused("contact(" + side + ", 4, " + which + ", 0)", doors -> doors.contact(at, 4, which, 0));
            }
            for (int leaf : new int[] {0, 7}) {
                PlatformDoors doors = new PlatformDoors();
                CHECK.due("contact 0 says not", doors.contact(side, leaf, 0, 2), 0);
                CHECK.due("contact 1 is right still", doors.contact(side, leaf, 1, 1), 0);
                CHECK.due("contact 0 said not", doors.contact(side, leaf, 0, 0), 2);
                CHECK.due("contact 1 said locked", doors.contact(side, leaf, 1, 0), 1);
                CHECK.due("the other side's", doors.contact(1 - side, leaf, 0, 0), 0);
            }
        }
    }

    /** "each of which is RIGHT (0), or always says locked (1), or always not (2)". */
    private static void contactHow() {
        for (int which = 0; which < 2; which++) {
            int at = which;
            for (int how : new int[] {-1, 3, LEAST, MOST}) {
                refused("contact(0, 4, " + which + ", " + how + ")", doors -> doors.contact(0, 4, at, how));
                refused("contact(1, 7, " + which + ", " + how + ")", doors -> doors.contact(1, 7, at, how));
            }
            PlatformDoors doors = new PlatformDoors();
            CHECK.due("right at first", doors.contact(1, 7, which, 2), 0);
            CHECK.due("the most", doors.contact(1, 7, which, 0), 2);
            CHECK.due("the least", doors.contact(1, 7, which, 1), 0);
        }
    }

    /** A call with a side and the number of a frame. */
    private interface OnFrame {
        int call(PlatformDoors doors, int side, int k);
    }

    /** "BAD: none such": of 12 frames to the platform and 3 to the train, and of none at first. */
    private static void noneSuch(String name, OnFrame call) {
        for (int k : new int[] {-1, 12, 13, LEAST, MOST}) {
            refused(name + " to the platform, " + k + " of 12", doors -> call.call(doors, 1, k));
        }
        for (int k : new int[] {-1, 3, 11, LEAST, MOST}) {
            refused(name + " to the train, " + k + " of 3", doors -> call.call(doors, 0, k));
        }
        for (int side = 0; side < 2; side++) {
            int at = side;
            for (int k : new int[] {-1, 0, 1}) {
                refusedAtFirst(name + " to " + side + ", " + k + " of none", doors -> call.call(doors, at, k));
            }
        }
    }

    private static void dueCount(String when, PlatformDoors doors, int side, int want) {
        CHECK.due("frames " + when, doors.told(side, 4), want);
        CHECK.due("the last frame " + when, doors.frame(side, want - 1, 0) != BAD, want > 0);
        CHECK.due("none behind the last " + when, doors.frame(side, want, 0), BAD);
    }

    private static void deliverNoneSuch() {
        noneSuch("deliver", PlatformDoors::deliver);
        PlatformDoors doors = Scenes.busy();
        CHECK.due("the first of 12", doors.deliver(1, 0), 1);
        CHECK.due("the twelfth that is none any more", doors.deliver(1, 11), BAD);
        CHECK.due("the last of 11", doors.deliver(1, 10), 1);
        dueCount("delivered twice", doors, 1, 10);
        doors = Scenes.busy();
        CHECK.due("the last of 3", doors.deliver(0, 2), 1);
        CHECK.due("the last of 2, an older one", doors.deliver(0, 1), 0);
        CHECK.due("the only one", doors.deliver(0, 0), 0);
        CHECK.due("none", doors.deliver(0, 0), BAD);
        dueCount("all delivered", doors, 0, 0);
    }

    private static void dropNoneSuch() {
        noneSuch("drop", PlatformDoors::drop);
        PlatformDoors doors = Scenes.busy();
        CHECK.due("the first of 12", doors.drop(1, 0), 11);
        CHECK.due("the twelfth that is none any more", doors.drop(1, 11), BAD);
        CHECK.due("the last of 11", doors.drop(1, 10), 10);
        dueCount("lost twice", doors, 1, 10);
        doors = Scenes.busy();
        CHECK.due("the last of 3", doors.drop(0, 2), 2);
        CHECK.due("the last of 2", doors.drop(0, 1), 1);
        CHECK.due("the only one", doors.drop(0, 0), 0);
        CHECK.due("none", doors.drop(0, 0), BAD);
        dueCount("all lost", doors, 0, 0);
    }

    private static void twinNoneSuch() {
        noneSuch("twin", PlatformDoors::twin);
        PlatformDoors doors = Scenes.busy();
        CHECK.due("the last of 3", doors.twin(0, 2), 4);
        CHECK.due("the last of 4", doors.twin(0, 3), 5);
        CHECK.due("the first of 5", doors.twin(0, 0), 6);
        CHECK.due("the seventh of 6", doors.twin(0, 6), BAD);
        dueCount("doubled three times", doors, 0, 6);
    }

    /** "BAD: ... there are 12". */
    private static void twinOfTwelve() {
        for (int k = 0; k < 12; k++) {
            int at = k;
            refused("twin of " + k + " of 12", doors -> doors.twin(1, at));
        }
        for (int side = 0; side < 2; side++) {
            int at = side;
            Supplier<PlatformDoors> eleven = () -> {
                PlatformDoors doors = new PlatformDoors();
                doors.step(1 - at, 55);
                return doors;
            };
            PlatformDoors doors = eleven.get();
            CHECK.due("twin of the last of 11", doors.twin(side, 10), 12);
            CHECK.due("twin of the last of 12", doors.twin(side, 11), BAD);
            dueCount("at most", doors, side, 12);
            Picture.refused(CHECK, "twin of one that is there twice", () -> {
                PlatformDoors full = eleven.get();
                full.twin(at, 10);
                return full;
            }, full -> full.twin(at, 10), BAD);
            CHECK.due("one is lost", doors.drop(side, 3), 11);
            CHECK.due("twin of the first of 11", doors.twin(side, 0), 12);
        }
    }

    private static void frameNoneSuch() {
        noneSuch("frame", (doors, side, k) -> doors.frame(side, k, 0));
        PlatformDoors doors = Scenes.busy();
        CHECK.due("number of the first of 3", doors.frame(0, 0, 0), 9);
        CHECK.due("number of the last of 3", doors.frame(0, 2, 0), 11);
        CHECK.due("number of the first of 12", doors.frame(1, 0, 0), 9);
        CHECK.due("number of the last of 12", doors.frame(1, 11, 0), 20);
    }

    private static void frameWhich() {
        for (int side = 0; side < 2; side++) {
            int at = side;
            for (int which : new int[] {-1, 6, 7, LEAST, MOST}) {
                refused("frame(" + side + ", 0, " + which + ")", doors -> doors.frame(at, 0, which));
            }
        }
        PlatformDoors doors = Scenes.busy();
        CHECK.due("the first part of a frame", doors.frame(1, 0, 0), 9);
        CHECK.due("the last part of a frame", doors.frame(1, 0, 5), 1);
        CHECK.due("the last part of the platform's", doors.frame(0, 0, 5), 0);
    }

    private static void leafWhich() {
        for (int side = 0; side < 2; side++) {
            int at = side;
            for (int which : new int[] {-1, 8, 9, LEAST, MOST}) {
                refused("leaf(" + side + ", 3, " + which + ")", doors -> doors.leaf(at, 3, which));
            }
        }
        PlatformDoors doors = Scenes.busy();
        CHECK.due("the first part of a leaf", doors.leaf(0, 3, 0), 100);
        CHECK.due("the last part of a leaf", doors.leaf(0, 3, 7), 640);
        CHECK.due("the last part of the platform's", doors.leaf(1, 3, 7), 785);
    }

    private static void toldWhich() {
        for (int side = 0; side < 2; side++) {
            int at = side;
            for (int which : new int[] {-1, 8, 9, LEAST, MOST}) {
                refused("told(" + side + ", " + which + ")", doors -> doors.told(at, which));
            }
        }
        PlatformDoors doors = Scenes.busy();
        CHECK.due("the first part of the train", doors.told(0, 0), 100);
        CHECK.due("the last part of the train", doors.told(0, 7), 1);
        CHECK.due("the first part of the platform", doors.told(1, 0), 55);
        CHECK.due("the last part of the platform", doors.told(1, 7), 1);
    }
}
