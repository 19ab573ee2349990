import java.util.ArrayList;
import java.util.List;

/**
 * The document once more, as slowly and as literally as can be: whole histories are kept where the
 * class keeps a count, so that the two are unlikely to share a slip.
 */
final class Model {
    private static final int BAD = -1, NONE = -2;

    private final List<List<int[]>> underWay = List.of(new ArrayList<>(), new ArrayList<>());
    private final List<Integer> speedsSeen = new ArrayList<>();
    /** Of each step of the train: the platform's steps then, and whether it stood at the mark. */
    private final List<int[]> trainHistory = new ArrayList<>();
    private final int[][] taken = new int[2][];
    private final int[] steps = new int[2], state = new int[2], opened = new int[2];
    private final int[] warnedFor = new int[2];
    private final int[][] position = new int[2][8], obstructed = new int[2][8];
    private final int[][] reopening = new int[2][8], retries = new int[2][8];
    private final boolean[][] wanted = new boolean[2][8], staff = new boolean[2][8];
    private final boolean[][] isolated = new boolean[2][8], released = new boolean[2][8];
    private final int[][][] contacts = new int[2][8][2];
    private int place = 0, speed = 1, error = 0, breaches = 0;
    private boolean command = false;

    private static boolean in(int x, int low, int high) {
        return low <= x && x <= high;
    }

    private static int bit(boolean is) {
        return is ? 1 : 0;
    }

    private static boolean bad(int side, int leaf) {
        return !in(side, 0, 1) || !in(leaf, 0, 7);
    }

    private boolean none(int side, int k) {
        return !in(side, 0, 1) || !in(k, 0, underWay.get(side).size() - 1);
    }

    int step(int side, int many) {
        if (!in(side, 0, 1) || !in(many, 1, 500)) {
            return BAD;
        }
        for (int i = 0; i < many; i++) {
            oneStep(side);
        }
        return steps[side];
    }

    private void oneStep(int side) {
        steps[side]++;
        if (side == 0) {
            speedsSeen.add(speed);
            trainHistory.add(new int[] {steps[1], bit(speed == 0 && in(place, -350, 350))});
        }
        stateOf(side);
        for (int leaf = 0; leaf < 8; leaf++) {
            moveLeaf(side, leaf);
        }
        if (steps[side] % 5 == 0 && underWay.get(1 - side).size() < 12) {
            underWay.get(1 - side).add(newFrame(side));
        }
    }

    private int[] newFrame(int side) {
        int bits = 0;
        for (int leaf = 7; leaf >= 0; leaf--) {
            bits = bits * 2 + bit(isolated[side][leaf]);
        }
        return new int[] {steps[side] / 5, taken[side] == null ? 0 : taken[side][0], state[side], bits,
            told(side, 6), side == 0 ? bit(command) : 0};
    }

    private void stateOf(int side) {
        int age = told(side, 2);
        boolean fresh = age != NONE && age <= 25;
        boolean stale = age == NONE || age > 75;
        if (state[side] == 0) {
            boolean opens = fresh && (side == 0
                ? command && told(0, 6) == 1 && taken[0][2] == 1
                : taken[1][4] == 1 && taken[1][5] == 1);
            if (opens) {
                state[side] = 1;
                opened[side]++;
                if (side == 1 && !stoodLately()) {
                    breaches++;
                }
            }
        } else if (state[side] == 1) {
            boolean warns = stale || (side == 0
                ? !command || told(0, 6) == 0
                : taken[1][4] == 0 || taken[1][5] == 0);
            if (warns) {
                state[side] = 2;
                warnedFor[side] = 0;
            }
        } else if (++warnedFor[side] == 150) {
            state[side] = 0;
        }
    }

    private boolean stoodLately() {
        for (int[] row : trainHistory) {
            if (row[0] >= steps[1] - 25 && row[1] == 1) {
                return true;
            }
        }
        return false;
    }

    private void moveLeaf(int side, int i) {
        boolean out = isolated[side][i] || taken[side] != null && (taken[side][3] / (1 << i)) % 2 == 1;
        boolean want = state[side] != 0 && !out || reopening[side][i] > 0;
        wanted[side][i] = want;
        boolean feltNow = false;
        int at = position[side][i];
        if (released[side][i]) {
            position[side][i] = at + 10 > 100 ? 100 : at + 10;
        } else if (want) {
            position[side][i] = at + 5 > 100 ? 100 : at + 5;
        } else if (at > 0) {
            if (obstructed[side][i] > 0 && at <= 40) {
                if (retries[side][i] < 3) {
                    retries[side][i]++;
                    reopening[side][i] = 40;
                    feltNow = true;
                } else {
                    staff[side][i] = true;
                }
            } else {
                position[side][i] = at - 5 < 0 ? 0 : at - 5;
            }
        }
        if (position[side][i] == 0 && !want && !released[side][i]) {
            retries[side][i] = 0;
            staff[side][i] = false;
        }
        if (obstructed[side][i] > 0) {
            obstructed[side][i]--;
        }
        if (reopening[side][i] > 0 && !feltNow) {
            reopening[side][i]--;
        }
    }

    int arrive(int newPlace, int newSpeed) {
        if (!in(newPlace, -2000000, 2000000) || !in(newSpeed, 0, 30000)) {
            return BAD;
        }
        place = newPlace;
        speed = newSpeed;
        return 0;
    }

    int error(int e) {
        if (!in(e, -1000, 1000)) {
            return -2000;
        }
        int before = error;
        error = e;
        return before;
    }

    int command(boolean open) {
        int before = bit(command);
        command = open;
        return before;
    }

    int isolate(int side, int leaf, boolean is) {
        return bad(side, leaf) ? BAD : exchange(isolated[side], leaf, is);
    }

    int release(int side, int leaf, boolean is) {
        return bad(side, leaf) ? BAD : exchange(released[side], leaf, is);
    }

    private static int exchange(boolean[] row, int at, boolean is) {
        int before = bit(row[at]);
        row[at] = is;
        return before;
    }

    int obstruct(int side, int leaf, int many) {
        return bad(side, leaf) || !in(many, 0, 1000) ? BAD : exchange(obstructed[side], leaf, many);
    }

    int contact(int side, int leaf, int which, int how) {
        return bad(side, leaf) || !in(which, 0, 1) || !in(how, 0, 2)
            ? BAD : exchange(contacts[side][leaf], which, how);
    }

    private static int exchange(int[] row, int at, int value) {
        int before = row[at];
        row[at] = value;
        return before;
    }

    int deliver(int side, int k) {
        if (none(side, k)) {
            return BAD;
        }
        int[] frame = underWay.get(side).remove(k);
        if (taken[side] != null && frame[0] <= taken[side][0]) {
            return 0;
        }
        taken[side] = frame;
        return 1;
    }

    int drop(int side, int k) {
        if (none(side, k)) {
            return BAD;
        }
        underWay.get(side).remove(k);
        return underWay.get(side).size();
    }

    int twin(int side, int k) {
        if (none(side, k) || underWay.get(side).size() == 12) {
            return BAD;
        }
        underWay.get(side).add(k + 1, underWay.get(side).get(k));
        return underWay.get(side).size();
    }

    int frame(int side, int k, int which) {
        return none(side, k) || !in(which, 0, 5) ? BAD : underWay.get(side).get(k)[which];
    }

    int leaf(int side, int i, int which) {
        if (bad(side, i) || !in(which, 0, 7)) {
            return BAD;
        }
        boolean locked = position[side][i] == 0 && !wanted[side][i] && !released[side][i];
        boolean toldLocked = true;
        for (int how : contacts[side][i]) {
            toldLocked &= how == 1 || how == 0 && locked;
        }
        int[] answers = {position[side][i], bit(wanted[side][i]), bit(locked), bit(toldLocked),
            retries[side][i], bit(staff[side][i]), reopening[side][i], obstructed[side][i]};
        return answers[which];
    }

    int told(int side, int which) {
        if (!in(side, 0, 1) || !in(which, 0, 7)) {
            return BAD;
        }
        int locked = 0;
        for (int leaf = 0; leaf < 8; leaf++) {
            locked += leaf(side, leaf, 3);
        }
        boolean noAge = taken[side] == null || taken[side][1] == 0;
        int[] answers = {steps[side], state[side], noAge ? NONE : steps[side] - 5 * taken[side][1],
            taken[side] == null ? 0 : taken[side][0], underWay.get(side).size(), locked,
            bit(side == 0 ? ready() : locked == 8), opened[side]};
        return answers[which];
    }

    private boolean ready() {
        int last = speedsSeen.size();
        for (int i = 1; i <= 20; i++) {
            if (i > last || speedsSeen.get(last - i) != 0) {
                return false;
            }
        }
        return in(place + error, -250, 250);
    }

    int mayGo() {
        int age = told(0, 2);
        return bit(age != NONE && age <= 25 && taken[0][4] == 1 && state[0] == 0 && told(0, 5) == 8);
    }

    int breaches() {
        return breaches;
    }
}
