import java.util.ArrayList;
import java.util.List;

/** The promises 12, 13 and 15: times, orphan and goes. */
public final class BoundariesOfTelling {
    private static final Scene RICH = Scenes.RICH;

    public static void main(String[] args) {
        Boundary.runAll(BoundariesOfTelling.class);
    }

    // Promise 12: "The MOMENT of the i-th CHANGE of a record, from 0 on"
    private static void promise12ToTheEnd() {
        Boundary.answers(RICH, "times(5, 0) = 5; times(5, 1) = 6; times(5, 2) = 9; times(5, 3) = 10; times(5, 4) = 13");
        Boundary.refusedEach(RICH, "times(5, N) = 0", -1, 5, 6, 39, 40, 41, Scenes.MIN, Scenes.MAX);
    }

    // Promise 12: "0 if there is none such": a record without a CHANGE
    private static void promise12NoChangeYet() {
        Boundary.answers(RICH, "times(1, 0) = 0; times(7, 0) = 0; times(8, 0) = 0; times(16, 0) = 0");
        Boundary.answers(RICH, "link(1, 0, 3) = 0; link(8, 4, 100) = 0; times(1, 0) = 0; times(8, 0) = 0");
    }

    // Promise 12: "0 if there is none such": no such record
    private static void promise12NoSuchRecord() {
        // With 40 places for each record, 107374183 and 53687092 times 40 come round past the end of int.
        int[] none = {0, -1, 17, 60, 61, 53687092, 107374183, Scenes.MIN, Scenes.MAX};
        Boundary.refusedEach(RICH, "times(N, 0) = 0", none);
        Boundary.refused(RICH, "times(MIN, MIN) = 0");
        Boundary.refused(RICH, "times(MAX, MAX) = 0");
        Boundary.answersEach(Scene.records(60).then("link(1, 4, 1) = 1; link(60, 4, 1) = 1"), "times(N, 0) = 0",
            0, -1, 61, 53687092, 107374183, Scenes.MIN, Scenes.MAX);
    }

    // Promise 12: a DELETED record's CHANGES are told, the one of the delete too
    private static void promise12Deleted() {
        Boundary.answers(RICH, "times(4, 0) = 3; times(4, 1) = 16; times(4, 2) = 0");
        Boundary.answers(RICH, "delete(5) = 1; times(5, 4) = 13; times(5, 5) = 18; times(5, 6) = 0");
    }

    /** Record 1 with so many CHANGES, at the MOMENTS 3, 4 and so on; 2 and 3 with one each. */
    private static Scene withChanges(int changes) {
        List<Call> calls = new ArrayList<>();
        calls.add(new Call(1, "link", 2, 4, 50));
        calls.add(new Call(1, "link", 3, 4, 51));
        calls.add(new Call(1, "link", 1, 4, 1));
        for (int n = 1; n < changes; n++) {
            calls.add(new Call(1, "change", 2 - n % 2, 1 + n % 2));
        }
        return Scene.records(4).then(calls);
    }

    // Promise 12: "(of the first 40)": the 40th is told
    private static void promise12TheFortieth() {
        Boundary.only(withChanges(39), "link(1, 5, 7) = 1", "goes(1, 5, 0) = 7; times(1, 39) = 42");
        Boundary.answers(withChanges(40), "times(1, 0) = 3; times(1, 38) = 41; times(1, 39) = 42; times(1, 40) = 0");
    }

    // Promise 12: "(of the first 40)": the 41st is not, by whatever call, and meets no other record
    private static void promise12The41st() {
        Scene scene = withChanges(40);
        Boundary.only(scene, "link(1, 5, 7) = 1", "goes(1, 5, 0) = 7");
        Boundary.only(scene, "change(2, 3) = 1", "goes(1, 4, 0) = 3");
        Boundary.only(scene, "delete(1) = 1", "goes(1, 4, 0) = 0");
        Boundary.only(scene.then("link(1, 2, 3) = 1; delete(3) = 1"), "repair(0) = 0",
            "goes(1, 2, 0) = 0; broken(0, 0) = NONE; broken(0, 1) = NONE; broken(0, 2) = NONE");
        Boundary.answersEach(withChanges(60), "times(1, N) = 0", 40, 41, 59, 60, -1, Scenes.MIN, Scenes.MAX);
        Boundary.answers(withChanges(60), "times(1, 0) = 3; times(1, 39) = 42; times(2, 0) = 1; times(2, 1) = 0; times(3, 1) = 0");
    }

    // Promise 12: "from 0 on": one too small is none, though the record before has all its 40
    private static void promise12BeforeTheFirst() {
        Boundary.answersEach(withChanges(40), "times(1, N) = 0; times(2, N) = 0; times(3, N) = 0", -1, -2, -40, -41, Scenes.MIN);
        Boundary.answersEach(withChanges(60), "times(2, N) = 0", -1, -2, -40, -41, Scenes.MIN);
    }

    // Promise 12: "(of the first 40)": for the first and the last record alike
    private static void promise12TheFortiethOf60() {
        for (int r : new int[] {1, 59, 60}) {
            List<Call> calls = new ArrayList<>();
            calls.add(new Call(1, "link", r, 9, 1));
            for (int n = 1; n < 41; n++) {
                calls.add(new Call(1, "change", 2 - n % 2, 1 + n % 2));
            }
            Boundary.answersEach(Scene.records(60).then(calls), "times(N, 0) = 1; times(N, 39) = 40; times(N, 40) = 0", r);
            Boundary.answersEach(Scene.records(60).then(calls), "times(N, 0) = 0", r - 1, r + 1);
        }
    }

    // Promise 13: "The i-th LIVE record, from 0 on, by numbers"
    private static void promise13ToTheEnd() {
        Boundary.answers(RICH, "orphan(0) = 8; orphan(1) = 9; orphan(7) = 15; orphan(8) = 16; orphan(9) = 0");
        Boundary.refusedEach(RICH, "orphan(N) = 0", -1, 9, 10, 59, 60, 61, Scenes.MIN, Scenes.MAX);
    }

    // Promise 13: all 60, and none
    private static void promise13AllAndNone() {
        Boundary.answers(Scene.records(60), "orphan(0) = 1; orphan(58) = 59; orphan(59) = 60; orphan(60) = 0");
        Boundary.answers(Scenes.LONGEST, "orphan(0) = 0; orphan(1) = 0; orphan(59) = 0");
        Boundary.answers(Scene.empty(), "orphan(0) = 0; record() = 1; orphan(0) = 1; delete(1) = 1; orphan(0) = 0");
    }

    // Promise 13: "LIVE"
    private static void promise13Deleted() {
        Boundary.answers(RICH, "delete(8) = 1; orphan(0) = 9; delete(16) = 1; orphan(6) = 15; orphan(7) = 0");
    }

    // Promise 13: "that has no links": of each field; a BROKEN one is a link
    private static void promise13HasLinks() {
        for (int field = 0; field <= 9; field++) {
            Boundary.answers(Scene.records(2), "link(1, F, 2) = 1; orphan(0) = G; orphan(1) = 0"
                .replace("F", "" + field).replace("G", field <= 3 ? "0" : "2"));
        }
        Boundary.answers(Scene.records(2), "link(1, 2, 2) = 1; delete(2) = 1; orphan(0) = 0; repair(0) = 0; orphan(0) = 1");
    }

    // Promise 13: "and to which none goes": until the link is changed or gone
    private static void promise13NoneGoesToIt() {
        Boundary.answers(Scene.records(3), "link(1, 1, 2) = 1; orphan(0) = 3; delete(1) = 1; orphan(0) = 2; orphan(1) = 3");
        Boundary.answers(Scene.records(4), """
            link(2, 0, 1) = 1
            link(3, 2, 2) = 1
            delete(2) = 1
            orphan(0) = 1
            orphan(1) = 4
            repair(0) = 1
            orphan(0) = 4
            orphan(1) = 0
            """);
    }

    // Promise 15: "Of the i-th link of a record's field, from 0 on, to what it goes"
    private static void promise15ToTheEnd() {
        Boundary.answers(RICH, "goes(5, 4, 0) = 50; goes(5, 4, 1) = 51; goes(6, 9, 0) = 50; goes(6, 9, 1) = 1");
        Boundary.refusedEach(RICH, "goes(5, 4, N) = 0", -1, 2, 3, Scenes.MIN, Scenes.MAX);
    }

    // Promise 15: "the i-th link of a record's field": a field that has as many as it may
    private static void promise15FullFields() {
        Boundary.answers(Scenes.FULL, "goes(6, 0, 0) = 12; goes(6, 0, 1) = 0; goes(6, 1, 1) = 11; goes(6, 1, 2) = 0");
        Boundary.answers(Scenes.FULL, "goes(6, 2, 4) = 14; goes(6, 2, 5) = 0; goes(6, 3, 4) = 14; goes(6, 3, 5) = 0");
        Boundary.answers(Scenes.FULL, "goes(6, 4, 2) = 52; goes(6, 4, 3) = 0; goes(6, 9, 2) = 67; goes(6, 9, 3) = 0");
        Boundary.answers(Scenes.FULL, "goes(8, 7, 2) = 12; goes(8, 7, 3) = 0; goes(8, 8, 0) = 0; goes(9, 0, 0) = 0");
    }

    // Promise 15: "0 if there is none such": an empty field
    private static void promise15EmptyField() {
        for (int field = 0; field <= 9; field++) {
            Boundary.refusedEach(RICH, "goes(8, " + field + ", N) = 0", 0, 1, -1);
        }
    }

    // Promise 15: "0 if there is none such": no such field
    private static void promise15NoSuchField() {
        Boundary.refusedEach(RICH, "goes(5, N, 0) = 0", -1, 10, 11, Scenes.MIN, Scenes.MAX);
    }

    // Promise 15: "0 if there is none such": no such record, or one that is DELETED
    private static void promise15NoSuchRecord() {
        Boundary.refusedEach(RICH, "goes(N, 4, 0) = 0", 0, -1, 17, 60, 61, Scenes.MIN, Scenes.MAX);
        Boundary.refusedEach(RICH, "goes(4, N, 0) = 0", 0, 1, 4);
        Boundary.answers(RICH, "delete(5) = 1; goes(5, 1, 0) = 0; goes(5, 4, 0) = 0; goes(5, 4, 1) = 0");
        Boundary.refused(RICH, "goes(MIN, MIN, MIN) = 0");
        Boundary.refused(RICH, "goes(MAX, MAX, MAX) = 0");
    }

    // Promise 15: "to what it goes": a BROKEN link too
    private static void promise15Broken() {
        Boundary.answers(RICH, "goes(5, 2, 0) = 4; goes(6, 2, 0) = 4; goes(6, 3, 0) = 7");
        Boundary.answers(RICH, "repair(2) = 0; goes(6, 3, 0) = 0; repair(1) = 1; goes(6, 2, 0) = 2");
    }
}
