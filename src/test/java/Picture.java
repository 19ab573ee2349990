import java.util.ArrayList;
import java.util.List;
import java.util.function.Supplier;
import java.util.function.ToIntFunction;

/**
 * All that can be learned of an object, by some 400 calls that spoil it: what it tells, what setting
 * something else answers, how it goes on. Two objects that differ in any part have two pictures.
 */
final class Picture {
    private final List<String> rows = new ArrayList<>();
    private final PlatformDoors doors;

    private Picture(PlatformDoors doors) {
        this.doors = doors;
        side(0);
        side(1);
        row("mayGo()", doors.mayGo() ? 1 : 0);
        row("breaches()", doors.breaches());
        row("command(true)", doors.command(true) ? 1 : 0);
        row("error(130)", doors.error(130));
        place();
        goOn();
    }

    /** The call is made on one of two like objects: its answer is due, and they stay alike. */
    static void refused(Check check, String what, Supplier<PlatformDoors> scene,
            ToIntFunction<PlatformDoors> call, int due) {
        PlatformDoors asked = scene.get();
        check.due(what, call.applyAsInt(asked), due);
        alike(check, "changed by the refused " + what, asked, scene.get());
    }

    /** Both objects are spoilt by that. */
    static void alike(Check check, String what, PlatformDoors one, PlatformDoors other) {
        List<String> got = new Picture(one).rows;
        List<String> want = new Picture(other).rows;
        int row = 0;
        while (row < got.size() && row < want.size() && got.get(row).equals(want.get(row))) {
            row++;
        }
        boolean same = row == got.size() && row == want.size();
        check.due(what + ": " + (same ? "nothing" : rowOf(got, row) + ", not " + rowOf(want, row)), same, true);
    }

    private static String rowOf(List<String> rows, int row) {
        return row < rows.size() ? rows.get(row) : "the end";
    }

    private void row(String what, int answer) {
        rows.add(what + " = " + answer);
    }

    private void side(int side) {
        for (int which = 0; which < 8; which++) {
            row("told(" + side + ", " + which + ")", doors.told(side, which));
        }
        int count = doors.told(side, 4);
        for (int k = 0; k < count; k++) {
            for (int which = 0; which < 6; which++) {
                row("frame(" + side + ", " + k + ", " + which + ")", doors.frame(side, k, which));
            }
        }
        for (int leaf = 0; leaf < 8; leaf++) {
            for (int which = 0; which < 8; which++) {
                row("leaf(" + side + ", " + leaf + ", " + which + ")", doors.leaf(side, leaf, which));
            }
            String at = "(" + side + ", " + leaf;
            row("isolate" + at + ", false)", doors.isolate(side, leaf, false));
            row("release" + at + ", false)", doors.release(side, leaf, false));
            row("contact" + at + ", 0, 0)", doors.contact(side, leaf, 0, 0));
            row("contact" + at + ", 1, 0)", doors.contact(side, leaf, 1, 0));
        }
    }

    /** READY at the errors that are just in and just out tells the place, if it is 120 or 0. */
    private void place() {
        for (int e : new int[] {130, 131, -370, -371, 250, 251, -250, -251}) {
            doors.error(e);
            row("READY with error " + e, doors.told(0, 6));
        }
        doors.error(0);
    }

    /** The speed, and what each side has taken, show in the steps that follow. */
    private void goOn() {
        for (int round = 0; round < 2; round++) {
            for (int side = 0; side < 2; side++) {
                doors.step(side, 5);
                row("deliver(" + side + ", 0)", doors.deliver(side, 0));
                for (int which = 0; which < 8; which++) {
                    row("later told(" + side + ", " + which + ")", doors.told(side, which));
                }
                row("later leaf(" + side + ", 3, 0)", doors.leaf(side, 3, 0));
            }
        }
    }
}
