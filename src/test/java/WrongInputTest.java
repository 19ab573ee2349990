/** The limits of every call's arguments: what is outside answers BAD and changes nothing. */
public final class WrongInputTest {
    private static final Check CHECK = new Check();
    private static final int BAD = PlatformDoors.BAD;
    private static final int LEAST = Integer.MIN_VALUE, MOST = Integer.MAX_VALUE;
    private static final int[] NO_SIDES = {-1, 2, LEAST, MOST};
    private static final int[] NO_LEAVES = {-1, 8, LEAST, MOST};

    public static void main(String[] args) {
        PlatformDoors doors = new PlatformDoors();
        doors.step(0, 10);
        doors.step(1, 10);
        String before = picture(doors);
        refusals(doors);
        CHECK.due("nothing changed: " + before, picture(doors).equals(before), true);
        CHECK.due("error unchanged", doors.error(0), 0);
        edges();
        CHECK.end();
    }

    private static void refusals(PlatformDoors doors) {
        for (int side : NO_SIDES) {
            badSide(doors, side);
        }
        for (int leaf : NO_LEAVES) {
            badLeaf(doors, leaf);
        }
        for (int many : new int[] {0, -1, 501, LEAST, MOST}) {
            CHECK.due("step(0, " + many + ")", doors.step(0, many), BAD);
            CHECK.due("step(1, " + many + ")", doors.step(1, many), BAD);
        }
        for (int place : new int[] {2000001, -2000001, LEAST, MOST}) {
            CHECK.due("arrive(" + place + ", 0)", doors.arrive(place, 0), BAD);
        }
        for (int speed : new int[] {-1, 30001, LEAST, MOST}) {
            CHECK.due("arrive(0, " + speed + ")", doors.arrive(0, speed), BAD);
        }
        for (int e : new int[] {1001, -1001, LEAST, MOST}) {
            CHECK.due("error(" + e + ")", doors.error(e), -2000);
        }
        for (int steps : new int[] {-1, 1001, LEAST, MOST}) {
            CHECK.due("obstruct(1, 0, " + steps + ")", doors.obstruct(1, 0, steps), BAD);
        }
        for (int wrong : new int[] {-1, 3, LEAST, MOST}) {
            CHECK.due("contact how " + wrong, doors.contact(0, 0, 0, wrong), BAD);
        }
        for (int wrong : new int[] {-1, 2, LEAST, MOST}) {
            CHECK.due("contact which " + wrong, doors.contact(0, 0, wrong, 2), BAD);
            badFrame(doors, wrong);
        }
        for (int wrong : new int[] {-1, 6, LEAST, MOST}) {
            CHECK.due("frame which " + wrong, doors.frame(0, 0, wrong), BAD);
        }
        for (int wrong : new int[] {-1, 8, LEAST, MOST}) {
            CHECK.due("leaf which " + wrong, doors.leaf(0, 0, wrong), BAD);
            CHECK.due("told which " + wrong, doors.told(1, wrong), BAD);
        }
    }

    private static void badSide(PlatformDoors doors, int side) {
        CHECK.due("step side " + side, doors.step(side, 1), BAD);
        CHECK.due("isolate side " + side, doors.isolate(side, 0, true), BAD);
        CHECK.due("release side " + side, doors.release(side, 0, true), BAD);
        CHECK.due("obstruct side " + side, doors.obstruct(side, 0, 1), BAD);
        CHECK.due("contact side " + side, doors.contact(side, 0, 0, 2), BAD);
        CHECK.due("deliver side " + side, doors.deliver(side, 0), BAD);
        CHECK.due("drop side " + side, doors.drop(side, 0), BAD);
        CHECK.due("twin side " + side, doors.twin(side, 0), BAD);
        CHECK.due("frame side " + side, doors.frame(side, 0, 0), BAD);
        CHECK.due("leaf side " + side, doors.leaf(side, 0, 0), BAD);
        CHECK.due("told side " + side, doors.told(side, 0), BAD);
    }

    private static void badLeaf(PlatformDoors doors, int leaf) {
        CHECK.due("isolate leaf " + leaf, doors.isolate(0, leaf, true), BAD);
        CHECK.due("release leaf " + leaf, doors.release(1, leaf, true), BAD);
        CHECK.due("obstruct leaf " + leaf, doors.obstruct(0, leaf, 1), BAD);
        CHECK.due("contact leaf " + leaf, doors.contact(1, leaf, 0, 2), BAD);
        CHECK.due("leaf leaf " + leaf, doors.leaf(0, leaf, 0), BAD);
    }

    /** Two frames are under way to each side here: 0 and 1. */
    private static void badFrame(PlatformDoors doors, int k) {
        for (int side = 0; side < 2; side++) {
            CHECK.due("deliver frame " + k, doors.deliver(side, k), BAD);
            CHECK.due("drop frame " + k, doors.drop(side, k), BAD);
            CHECK.due("twin frame " + k, doors.twin(side, k), BAD);
            CHECK.due("frame frame " + k, doors.frame(side, k, 0), BAD);
        }
    }

    /** The last arguments that are still good. */
    private static void edges() {
        PlatformDoors doors = new PlatformDoors();
        CHECK.due("step(0, 1)", doors.step(0, 1), 1);
        CHECK.due("step(0, 500)", doors.step(0, 500), 501);
        CHECK.due("step(1, 500)", doors.step(1, 500), 500);
        CHECK.due("arrive(2000000, 30000)", doors.arrive(2000000, 30000), 0);
        CHECK.due("arrive(-2000000, 0)", doors.arrive(-2000000, 0), 0);
        CHECK.due("error(1000)", doors.error(1000), 0);
        CHECK.due("error(-1000)", doors.error(-1000), 1000);
        CHECK.due("a wrong error in between", doors.error(1001), -2000);
        CHECK.due("error(5)", doors.error(5), -1000);
        for (int side = 0; side < 2; side++) {
            CHECK.due("isolate leaf 7", doors.isolate(side, 7, true), 0);
            CHECK.due("release leaf 7", doors.release(side, 7, true), 0);
            CHECK.due("obstruct 1000", doors.obstruct(side, 7, 1000), 0);
            CHECK.due("obstruct 0", doors.obstruct(side, 7, 0), 1000);
            CHECK.due("contact 1 says not", doors.contact(side, 7, 1, 2), 0);
            CHECK.due("contact 1 is right", doors.contact(side, 7, 1, 0), 2);
        }
    }

    private static String picture(PlatformDoors doors) {
        StringBuilder text = new StringBuilder();
        for (int side = 0; side < 2; side++) {
            for (int which = 0; which < 8; which++) {
                text.append(doors.told(side, which)).append(' ');
                for (int leaf = 0; leaf < 8; leaf++) {
                    text.append(doors.leaf(side, leaf, which)).append(' ');
                }
            }
            for (int which = 0; which < 6; which++) {
                text.append(doors.frame(side, 0, which)).append(' ').append(doors.frame(side, 1, which)).append(' ');
            }
        }
        return text.append(doors.mayGo()).append(doors.breaches()).toString();
    }
}
