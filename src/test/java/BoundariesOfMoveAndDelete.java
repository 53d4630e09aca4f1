/** The promises 10, 11 and 14: move, delete and house. */
public final class BoundariesOfMoveAndDelete {
    private static final Scene RICH = Scenes.RICH;

    public static void main(String[] args) {
        Boundary.runAll(BoundariesOfMoveAndDelete.class);
    }

    // Promise 10: "A record, and all that LIE IN it .. how many of them were in another one"
    private static void promise10WithItsParts() {
        Boundary.only(RICH, "move(1, 7) = 3", "house(1) = 7; house(2) = 7; house(3) = 7");
        Boundary.only(RICH, "move(3, 7) = 1", "house(3) = 7");
        Boundary.only(RICH, "move(8, 0) = 1", "house(8) = 0");
    }

    // Promise 10: "how many of them were in another one": some, and none
    private static void promise10OnlyThoseElsewhere() {
        Boundary.only(RICH, "move(1, 5) = 1", "house(1) = 5");
        Boundary.only(RICH, "move(1, 0) = 2", "house(2) = 0; house(3) = 0");
        Boundary.refused(RICH, "move(2, 5) = 0");
        Boundary.refused(RICH, "move(9, 0) = 0");
        Boundary.refused(RICH, "move(8, 9) = 0");
    }

    // Promise 10: a record that is where it goes, with a part that is not
    private static void promise10ThePartAlone() {
        Scene scene = RICH.then("move(3, 1) = 1");
        Boundary.only(scene, "move(2, 5) = 1", "house(3) = 5");
    }

    // Promise 10: "all that LIE IN it": as many as there can be, one in another, and side by side
    private static void promise10All60() {
        Scene beside = Scene.records(60);
        for (int r = 1; r < 60; r++) {
            beside = beside.then("link(" + r + ", 0, 60) = 1");
        }
        for (Scene scene : new Scene[] {Scenes.LONGEST, beside}) {
            Boundary.answers(scene, "move(60, 9) = 60; house(1) = 9; house(59) = 9; house(60) = 9; move(60, 9) = 0");
            Boundary.answers(scene, "move(1, 9) = 1; move(60, 9) = 59; move(1, 0) = 1; house(60) = 9");
        }
    }

    // Promise 10: a DELETED part goes nowhere: it lies in nothing any more
    private static void promise10DeletedPartStays() {
        Boundary.answers(RICH, "move(2, 1) = 2; house(4) = 5; house(3) = 1");
    }

    // Promise 10: links of other fields take nothing along
    private static void promise10OtherFieldsStay() {
        Scene scene = Scene.records(5).then("link(1, 1, 5) = 1; link(2, 2, 5) = 1; link(3, 3, 5) = 1; link(4, 4, 5) = 1");
        Boundary.only(scene, "move(5, 3) = 1", "house(5) = 3");
    }

    // Promise 10: "from now on": a link made later moves nothing, a new part goes along next time
    private static void promise10FromNowOn() {
        Boundary.answers(RICH, "link(9, 0, 8) = 1; house(9) = 0; move(8, 9) = 1; house(9) = 9");
        Boundary.answers(RICH, "link(2, 0, 8) = 0; link(1, 0, 8) = 1; house(1) = 0; house(2) = 5; house(3) = 5; move(8, 5) = 2");
    }

    // Promise 10: "0, and nothing but the MOMENT happens, if there is no such house"
    private static void promise10NoSuchHouse() {
        Boundary.refusedEach(RICH, "move(1, N) = 0", -1, 10, 11, Scenes.MIN, Scenes.MAX);
        Boundary.answers(RICH, "move(1, 9) = 3; move(1, 0) = 3");
    }

    // Promise 10: "0 .. if there is no such .. record"
    private static void promise10NoSuchRecord() {
        Boundary.refusedEach(RICH, "move(N, 3) = 0", 0, -1, 17, 60, 61, Scenes.MIN, Scenes.MAX);
        Boundary.answers(RICH, "move(16, 3) = 1; house(16) = 3");
    }

    // Promise 10: "0 .. or it is DELETED"
    private static void promise10Deleted() {
        Boundary.refusedEach(RICH, "move(N, 3) = 0", 4, 7);
    }

    // Promise 10: neither a house nor a record
    private static void promise10Neither() {
        Boundary.refused(RICH, "move(MIN, MAX) = 0");
        Boundary.refused(RICH, "move(MAX, MIN) = 0");
        Boundary.refused(RICH, "move(0, 10) = 0");
    }

    // Promise 10: a move makes, changes and takes away no links: it is no CHANGE
    private static void promise10NoChange() {
        Boundary.answers(RICH, "move(3, 1) = 1; times(3, 0) = 2; times(3, 1) = 0; times(2, 1) = 0; times(1, 0) = 0");
    }

    // Promise 11: "A record is DELETED: 1": with nothing, with links of its own, and with links to it
    private static void promise11Deleted() {
        Boundary.only(RICH, "delete(15) = 1", "orphan(7) = 16; orphan(8) = 0");
        Boundary.only(RICH, "delete(5) = 1", """
            goes(5, 1, 0) = 0
            goes(5, 2, 0) = 0
            goes(5, 4, 0) = 0
            goes(5, 4, 1) = 0
            goes(5, 5, 0) = 0
            times(5, 5) = 18
            broken(0, 0) = 6
            broken(1, 1) = 3
            broken(1, 2) = 7
            broken(2, 0) = NONE
            broken(2, 1) = NONE
            broken(2, 2) = NONE
            """);
        Boundary.only(RICH, "delete(3) = 1", """
            host(3) = 0
            chain(3, 0) = 0
            chain(3, 1) = 0
            goes(3, 0, 0) = 0
            times(3, 1) = 18
            broken(0, 1) = 1
            broken(0, 2) = 3
            broken(1, 0) = 5
            broken(2, 1) = 2
            broken(2, 2) = 4
            broken(3, 0) = 6
            broken(3, 1) = 3
            broken(3, 2) = 7
            """);
    }

    // Promise 11: "Less how many records have it as their HOST, and nothing but the MOMENT happens, if
    // there are some"
    private static void promise11IsAHost() {
        Boundary.refused(RICH, "delete(1) = -1");
        Boundary.refused(RICH, "delete(2) = -1");
        Boundary.refused(RICH.then("link(8, 0, 2) = 1"), "delete(2) = -2");
        Boundary.refused(RICH.then("link(8, 0, 2) = 1; link(9, 0, 8) = 1"), "delete(2) = -2");
        Boundary.refused(Scenes.FULL, "delete(12) = -6");
    }

    // Promise 11: "how many records have it as their HOST": the first and the last record are some
    private static void promise11HostOfTheFirstOrLast() {
        Boundary.refused(Scene.records(2).then("link(2, 0, 1) = 1"), "delete(1) = -1");
        Boundary.refused(Scene.records(2).then("link(1, 0, 2) = 1"), "delete(2) = -1");
        Boundary.refused(RICH.then("link(16, 0, 8) = 1"), "delete(8) = -1");
    }

    // Promise 11: "how many records have it as their HOST": as many as there can be
    private static void promise11HostOf59() {
        Scene scene = Scene.records(60).clock("link(1, 9, 99) = 1", 1);
        for (int r = 1; r < 60; r++) {
            scene = scene.then("link(" + r + ", 0, 60) = 1");
        }
        Boundary.refused(scene, "delete(60) = -59");
        Boundary.answers(scene, "delete(1) = 1; delete(60) = -58; delete(59) = 1; delete(60) = -57");
        Boundary.answers(Scenes.LONGEST, "delete(60) = -1; delete(2) = -1; delete(1) = 1; delete(2) = 1; delete(60) = -1");
    }

    // Promise 11: "have it as their HOST": links of other fields, and a deleted part, do not hinder
    private static void promise11NoHost() {
        Boundary.answers(RICH, "link(8, 1, 9) = 1; link(8, 2, 9) = 1; link(8, 3, 9) = 1; link(8, 4, 9) = 1; delete(9) = 1");
        Boundary.answers(RICH, "delete(3) = 1; delete(2) = 1; delete(1) = 1");
    }

    // Promise 11: "0 if there is none such"
    private static void promise11NoneSuch() {
        Boundary.refusedEach(RICH, "delete(N) = 0", 0, -1, 17, 60, 61, Scenes.MIN, Scenes.MAX);
    }

    // Promise 11: "0 .. or it is": one that is DELETED already
    private static void promise11DeletedAlready() {
        Boundary.refusedEach(RICH, "delete(N) = 0", 4, 7);
        Boundary.answers(RICH, "delete(16) = 1; delete(16) = 0");
    }

    // Promise 14: "A record's house; NONE if there is no such record"
    private static void promise14NoSuchRecord() {
        Boundary.answers(RICH, "house(1) = 0; house(2) = 5; house(8) = 9; house(16) = 0");
        Boundary.refusedEach(RICH, "house(N) = NONE", 0, -1, 17, 60, 61, Scenes.MIN, Scenes.MAX);
        Boundary.answers(Scene.records(60), "house(60) = 0; house(61) = NONE");
    }

    // Promise 14: "(a DELETED one has its last one)"
    private static void promise14Deleted() {
        Boundary.answers(RICH, "house(4) = 5; house(7) = 0; move(4, 1) = 0; house(4) = 5; move(2, 1) = 2; house(4) = 5");
        Boundary.answers(RICH, "delete(8) = 1; house(8) = 9");
    }
}
