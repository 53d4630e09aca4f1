import java.util.ArrayList;
import java.util.List;

/** The promises 5 and 6: broken, and repair. */
public final class BoundariesOfBroken {
    private static final Scene RICH = Scenes.RICH;

    public static void main(String[] args) {
        Boundary.runAll(BoundariesOfBroken.class);
    }

    // Promise 5: "what 0: the record, 1: the field, 2: to what it goes"
    private static void promise5WhatIsTold() {
        Boundary.answers(RICH, "broken(0, 0) = 5; broken(0, 1) = 2; broken(0, 2) = 4");
        Boundary.answers(RICH, "broken(1, 0) = 6; broken(1, 1) = 2; broken(1, 2) = 4");
        Boundary.answers(RICH, "broken(2, 0) = 6; broken(2, 1) = 3; broken(2, 2) = 7");
    }

    // Promise 5: "the i-th link, from 0 on": one too small, and one too large
    private static void promise5NoneSuch() {
        for (int what = 0; what <= 2; what++) {
            Boundary.refusedEach(RICH, "broken(N, " + what + ") = NONE", -1, 3, 4, Scenes.MIN, Scenes.MAX);
        }
    }

    // Promise 5: "NONE if there is none such": none is broken yet, and none any more
    private static void promise5NoneBroken() {
        Scene before = Scene.records(2).then("link(1, 2, 2) = 1");
        Scene after = before.then("delete(2) = 1; repair(0) = 0").clock("link(1, 9, 99) = 1", 1);
        for (int what = 0; what <= 2; what++) {
            Boundary.answers(Scene.empty(), "broken(0, " + what + ") = NONE");
            Boundary.refused(before, "broken(0, " + what + ") = NONE");
            Boundary.refused(after, "broken(0, " + what + ") = NONE");
        }
    }

    // Promise 5: "or for another what"
    private static void promise5AnotherWhat() {
        for (int i = 0; i <= 2; i++) {
            Boundary.refusedEach(RICH, "broken(" + i + ", N) = NONE", -1, 3, 4, Scenes.MIN, Scenes.MAX);
        }
        Boundary.refused(RICH, "broken(3, 3) = NONE");
        Boundary.refused(RICH, "broken(MIN, MAX) = NONE");
        Boundary.refused(RICH, "broken(MAX, MIN) = NONE");
    }

    /** 200 links of 17 records to the records 18 .. 22, which have the host 23 and are deleted. */
    private static Scene allBroken() {
        List<Call> calls = new ArrayList<>();
        int made = 0;
        for (int r = 1; r <= 17; r++) {
            for (int n = 0; n < 12 && made < 195; n++) {
                calls.add(new Call(1, "link", r, n < 2 ? 1 : n < 7 ? 2 : 3, 18 + (n < 2 ? n : (n - 2) % 5)));
                made++;
            }
        }
        for (int r = 18; r <= 22; r++) {
            calls.add(new Call(1, "link", r, 0, 23));
        }
        calls.add(new Call(0, "link", 23, 1, 1));
        for (int r = 18; r <= 22; r++) {
            calls.add(new Call(1, "delete", r));
        }
        return Scene.records(24).then(calls);
    }

    // Promise 5: "the i-th link .. that is BROKEN": as many as there can be
    private static void promise5AllAreBroken() {
        Scene scene = allBroken().then("""
            link(17, 2, 1) = 1
            link(17, 2, 2) = 1
            link(17, 3, 23) = 1
            link(24, 2, 23) = 1
            link(24, 3, 23) = 1
            link(24, 3, 22) = 0
            link(24, 4, 1) = 0
            """);
        Boundary.answers(scene, "broken(0, 0) = 1; broken(0, 1) = 1; broken(0, 2) = 18");
        Boundary.answers(scene, "broken(194, 0) = 17; broken(194, 1) = 2; broken(194, 2) = 18");
        Boundary.answers(scene, "broken(195, 0) = NONE; broken(195, 2) = NONE; broken(200, 0) = NONE");
        Boundary.answers(scene, "delete(23) = 1; broken(195, 0) = 17; broken(197, 0) = 24; broken(198, 0) = NONE");
        Boundary.answers(scene, """
            delete(23) = 1
            delete(1) = 1
            broken(0, 0) = 2
            broken(182, 2) = 18
            broken(183, 2) = 1
            broken(184, 2) = 23
            broken(186, 0) = 24
            broken(187, 0) = NONE
            """);
    }

    // Promise 6: "goes to the HOST that the DELETED record had when it was DELETED: .. 1"
    private static void promise6GoesToTheHost() {
        Boundary.only(RICH, "repair(0) = 1", """
            goes(5, 2, 0) = 2
            times(5, 5) = 18
            broken(0, 0) = 6
            broken(1, 1) = 3
            broken(1, 2) = 7
            broken(2, 0) = NONE
            broken(2, 1) = NONE
            broken(2, 2) = NONE
            """);
    }

    // Promise 6: "The i-th link": the middle one, and the last one
    private static void promise6TheIth() {
        Boundary.only(RICH, "repair(1) = 1", """
            goes(6, 2, 0) = 2
            times(6, 4) = 18
            broken(1, 1) = 3
            broken(1, 2) = 7
            broken(2, 0) = NONE
            broken(2, 1) = NONE
            broken(2, 2) = NONE
            """);
        Boundary.only(RICH, "repair(2) = 0", """
            goes(6, 3, 0) = 0
            times(6, 4) = 18
            broken(2, 0) = NONE
            broken(2, 1) = NONE
            broken(2, 2) = NONE
            """);
    }

    // Promise 6: "Else it is taken away: 0": the DELETED record had no HOST
    private static void promise6NoHost() {
        Scene scene = Scene.records(4).then("link(1, 2, 2) = 1; link(1, 2, 3) = 1; delete(2) = 1");
        Boundary.only(scene, "repair(0) = 0", """
            goes(1, 2, 0) = 3
            goes(1, 2, 1) = 0
            times(1, 2) = 4
            broken(0, 0) = NONE
            broken(0, 1) = NONE
            broken(0, 2) = NONE
            """);
    }

    // Promise 6: "if that is LIVE": the HOST was DELETED since, and its own HOST is no matter
    private static void promise6HostIsDeletedToo() {
        Scene scene = Scene.records(5)
            .then("link(3, 0, 2) = 1; link(2, 0, 1) = 1; link(4, 3, 3) = 1; delete(3) = 1; delete(2) = 1");
        Boundary.only(scene, "repair(0) = 0", """
            goes(4, 3, 0) = 0
            times(4, 1) = 6
            orphan(1) = 4
            orphan(2) = 5
            broken(0, 0) = NONE
            broken(0, 1) = NONE
            broken(0, 2) = NONE
            """);
    }

    // Promise 6: "link() would make that link": it would be the same record
    private static void promise6HostIsTheRecordItself() {
        for (int field = 1; field <= 3; field++) {
            String text = "link(2, 0, 1) = 1; link(1, F, 2) = 1; delete(2) = 1".replace("F", "" + field);
            Boundary.only(Scene.records(3).then(text), "repair(0) = 0", """
                goes(1, F, 0) = 0
                times(1, 1) = 4
                orphan(0) = 1
                orphan(1) = 3
                broken(0, 0) = NONE
                broken(0, 1) = NONE
                broken(0, 2) = NONE
                """.replace("F", "" + field));
        }
    }

    // Promise 6: "link() would make that link": that very link is there, made earlier or later
    private static void promise6ThatVeryLinkIsThere() {
        Scene earlier = Scene.records(4).then("link(2, 0, 1) = 1; link(3, 2, 1) = 1; link(3, 2, 2) = 1; delete(2) = 1");
        Boundary.only(earlier, "repair(0) = 0", """
            goes(3, 2, 1) = 0
            times(3, 2) = 5
            broken(0, 0) = NONE
            broken(0, 1) = NONE
            broken(0, 2) = NONE
            """);
        Scene later = Scene.records(4).then("link(2, 0, 1) = 1; link(3, 2, 2) = 1; link(3, 2, 1) = 1; delete(2) = 1");
        Boundary.only(later, "repair(0) = 0", """
            goes(3, 2, 0) = 1
            goes(3, 2, 1) = 0
            times(3, 2) = 5
            broken(0, 0) = NONE
            broken(0, 1) = NONE
            broken(0, 2) = NONE
            """);
    }

    // Promise 6: "that very link": of another field, it is another one
    private static void promise6AnotherFieldHasIt() {
        Scene scene = Scene.records(4).then("link(2, 0, 1) = 1; link(3, 2, 1) = 1; link(3, 3, 2) = 1; delete(2) = 1");
        Boundary.answers(scene, "repair(0) = 1; goes(3, 3, 0) = 1; goes(3, 2, 0) = 1; broken(0, 0) = NONE");
    }

    // Promise 6: two broken links of one field to two parts of one HOST: the second is that very link
    private static void promise6TwoToOneHost() {
        Scene scene = Scene.records(5).then("""
            link(2, 0, 1) = 1
            link(3, 0, 1) = 1
            link(4, 1, 2) = 1
            link(4, 1, 3) = 1
            delete(2) = 1
            delete(3) = 1
            """);
        Boundary.answers(scene, "repair(0) = 1; repair(0) = 0; goes(4, 1, 0) = 1; goes(4, 1, 1) = 0");
        Boundary.answers(scene, "repair(1) = 1; repair(0) = 0; goes(4, 1, 0) = 1; goes(4, 1, 1) = 0");
    }

    // Promise 6: "(it itself not counted)": in a field that has as many as it may
    private static void promise6InAFullField() {
        Scene series = Scene.records(9).then("link(2, 0, 1) = 1; link(3, 1, 4) = 1; link(3, 1, 2) = 1; delete(2) = 1");
        Boundary.answers(series, "link(3, 1, 5) = 0; repair(0) = 1; goes(3, 1, 0) = 4; goes(3, 1, 1) = 1; link(3, 1, 5) = 0");
        for (int field = 2; field <= 3; field++) {
            Boundary.answers(Scene.records(9), """
                link(2, 0, 1) = 1
                link(3, F, 2) = 1
                link(3, F, 4) = 1
                link(3, F, 5) = 1
                link(3, F, 6) = 1
                link(3, F, 7) = 1
                delete(2) = 1
                link(3, F, 8) = 0
                repair(0) = 1
                goes(3, F, 0) = 1
                goes(3, F, 4) = 7
                link(3, F, 8) = 0
                """.replace("F", "" + field));
        }
    }

    // Promise 6: "(it itself not counted)": when there are 200
    private static void promise6With200Links() {
        Scene scene = allBroken().then("""
            link(24, 4, 1) = 1
            link(24, 4, 2) = 1
            link(24, 4, 3) = 1
            link(24, 5, 1) = 1
            link(24, 5, 2) = 1
            link(24, 5, 3) = 0
            """);
        Boundary.answers(scene, "repair(194) = 1; goes(17, 2, 0) = 23; broken(194, 0) = NONE; link(24, 5, 3) = 0");
        Boundary.answers(scene, "repair(0) = 1; repair(0) = 0; goes(1, 1, 0) = 23; goes(1, 1, 1) = 0; link(24, 5, 3) = 1");
    }

    // Promise 6: a repaired link can break again, and goes to the next HOST then
    private static void promise6BreaksAgain() {
        Scene scene = Scene.records(5).then("link(3, 0, 2) = 1; link(2, 0, 1) = 1; link(4, 3, 3) = 1; delete(3) = 1");
        Boundary.answers(scene, "repair(0) = 1; delete(2) = 1; broken(0, 2) = 2; repair(0) = 1; goes(4, 3, 0) = 1");
        Boundary.answers(scene, "repair(0) = 1; delete(2) = 1; delete(1) = 1; repair(0) = 0; goes(4, 3, 0) = 0");
    }

    // Promise 6: "NONE, and nothing but the MOMENT happens, if there is none such"
    private static void promise6NoneSuch() {
        Boundary.refusedEach(RICH, "repair(N) = NONE", -1, 3, 4, Scenes.MIN, Scenes.MAX);
    }

    // Promise 6: "if there is none such": none is broken yet, and none any more
    private static void promise6NoneBroken() {
        Scene before = Scene.records(2).then("link(1, 2, 2) = 1");
        Boundary.refused(before, "repair(0) = NONE");
        Boundary.refused(before.then("delete(2) = 1; repair(0) = 0").clock("link(1, 9, 99) = 1", 1), "repair(0) = NONE");
        Boundary.refused(Scenes.FULL, "repair(0) = NONE");
    }
}
