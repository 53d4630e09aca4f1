import java.util.ArrayList;
import java.util.List;

/** Scenes in which there is something of everything that a refused call could damage. */
final class Scenes {
    static final int MIN = Integer.MIN_VALUE;
    static final int MAX = Integer.MAX_VALUE;

    /**
     * 16 records, 4 and 7 of them deleted; 3 lies in 2, 2 in 1; broken are (5, 2, 4), (6, 2, 4) and
     * (6, 3, 7), and 4 had the host 2; a way was told; 8 to 16 are free; 17 moments.
     */
    static final Scene RICH = Scene.records(16).then("""
        link(2, 0, 1) = 1
        link(3, 0, 2) = 1
        link(4, 0, 2) = 1
        link(1, 0, 3) = 0
        link(5, 1, 3) = 1
        link(5, 2, 4) = 1
        link(6, 2, 4) = 1
        link(6, 3, 7) = 1
        link(5, 4, 50) = 1
        link(5, 4, 51) = 1
        link(6, 9, 50) = 1
        link(6, 9, 1) = 1
        link(5, 5, 99) = 1
        move(2, 5) = 3
        move(8, 9) = 1
        delete(4) = 1
        delete(7) = 1
        """);

    /** 200 links, and 201 moments: 31 links of each of 1 .. 6, two of 7, and 12 of 8; 9 has none. */
    static final Scene FULL = full();

    /** 60 records, each but the last in the next one, and 59 moments. */
    static final Scene LONGEST = longest();

    private Scenes() {
    }

    private static Scene full() {
        List<Call> calls = new ArrayList<>();
        for (int r = 1; r <= 6; r++) {
            calls.add(new Call(1, "link", r, 0, 12));
            calls.add(new Call(1, "link", r, 1, 10));
            calls.add(new Call(1, "link", r, 1, 11));
            for (int n = 0; n < 5; n++) {
                calls.add(new Call(1, "link", r, 2, 10 + n));
                calls.add(new Call(1, "link", r, 3, 10 + n));
            }
            for (int n = 0; n < 18; n++) {
                calls.add(new Call(1, "link", r, 4 + n / 3, 50 + n));
            }
        }
        calls.add(new Call(0, "link", 12, 0, 1));
        calls.add(new Call(1, "link", 7, 4, 1));
        calls.add(new Call(1, "link", 7, 4, 2));
        for (int n = 0; n < 12; n++) {
            calls.add(new Call(1, "link", 8, 4 + n / 3, 1 + n));
        }
        return Scene.records(20).then(calls).clock("change(1, 99) = 2", 7);
    }

    private static Scene longest() {
        List<Call> calls = new ArrayList<>();
        for (int r = 1; r < 60; r++) {
            calls.add(new Call(1, "link", r, 0, r + 1));
        }
        return Scene.records(60).then(calls);
    }
}
