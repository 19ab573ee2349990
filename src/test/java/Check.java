/** Counts the answers that are not as due, and ends a test accordingly. */
final class Check {
    private int wrong = 0;
    private int asked = 0;

    void due(String what, long got, long want) {
        asked++;
        if (got != want) {
            wrong++;
            System.out.println(what + " answered " + got + ", due is " + want);
        }
    }

    void due(String what, boolean got, boolean want) {
        due(what, got ? 1 : 0, want ? 1 : 0);
    }

    /** Prints the sum, and ends the program with 1 if an answer was wrong. */
    void end() {
        System.out.println(wrong + " of " + asked + " answers wrong");
        if (wrong != 0) {
            System.exit(1);
        }
    }

    /** Both sides do five steps and take each other's frame, so many times. */
    static void exchange(PlatformDoors doors, int times) {
        for (int i = 0; i < times; i++) {
            doors.step(0, 5);
            doors.step(1, 5);
            doors.deliver(0, 0);
            doors.deliver(1, 0);
        }
    }

    /** A train at the mark with the command to open, and both sides OPEN with all leaves at 100. */
    static PlatformDoors opened() {
        PlatformDoors doors = new PlatformDoors();
        doors.arrive(0, 0);
        doors.command(true);
        exchange(doors, 13);
        return doors;
    }
}
