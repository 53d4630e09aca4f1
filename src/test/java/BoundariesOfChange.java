/** Promise 4, change. */
public final class BoundariesOfChange {
    private static final Scene RICH = Scenes.RICH;

    public static void main(String[] args) {
        Boundary.runAll(BoundariesOfChange.class);
    }

    // "All links to a heading go to another one: .. how many links went to the first"
    private static void allLinksGo() {
        Boundary.only(RICH, "change(50, 60) = 2",
            "goes(5, 4, 0) = 60; goes(6, 9, 0) = 60; times(5, 5) = 18; times(6, 4) = 18");
    }

    // "All links": of each of the fields 4 .. 9, and none of the fields of records
    private static void ofEachField() {
        Scene scene = RICH;
        for (int field = 1; field <= 9; field++) {
            scene = scene.then("link(8, " + field + ", 9) = 1");
        }
        Boundary.only(scene, "change(9, 10) = 6", """
            goes(8, 4, 0) = 10
            goes(8, 5, 0) = 10
            goes(8, 6, 0) = 10
            goes(8, 7, 0) = 10
            goes(8, 8, 0) = 10
            goes(8, 9, 0) = 10
            times(8, 9) = 27
            """);
    }

    // "to a heading .. to another one": the first and the last heading
    private static void firstAndLastHeading() {
        Boundary.only(RICH, "change(1, 99) = 1", "goes(6, 9, 1) = 99; times(6, 4) = 18");
        Boundary.only(RICH, "change(99, 1) = 1", "goes(5, 5, 0) = 1; times(5, 5) = 18");
    }

    // "how many links went to the first": none, and so nothing but the MOMENT
    private static void noneWent() {
        Boundary.refused(RICH, "change(2, 50) = 0");
        Boundary.refused(RICH, "change(3, 2) = 0");
        Boundary.refused(Scene.records(1), "change(1, 2) = 0");
    }

    // "how many links went to the first": with 200 links
    private static void with200Links() {
        Boundary.answers(Scenes.FULL, "change(50, 1) = 6; goes(1, 4, 0) = 1; goes(6, 4, 0) = 1; link(9, 4, 1) = 0");
    }

    // "where a field had both, the one that was made later is gone": the one to the first was later
    private static void bothAndTheFirstWasLater() {
        Scene scene = RICH.then("link(8, 4, 20) = 1; link(8, 4, 30) = 1; link(8, 4, 10) = 1");
        Boundary.only(scene, "change(10, 20) = 1", "goes(8, 4, 2) = 0; times(8, 3) = 21");
    }

    // "where a field had both, the one that was made later is gone": the one to the other was later
    private static void bothAndTheFirstWasEarlier() {
        Scene scene = RICH.then("link(8, 4, 10) = 1; link(8, 4, 30) = 1; link(8, 4, 20) = 1");
        Boundary.only(scene, "change(10, 20) = 1", "goes(8, 4, 0) = 20; goes(8, 4, 2) = 0; times(8, 3) = 21");
    }

    // "where a field had both": one after the other, each way
    private static void bothSideBySide() {
        Scene scene = RICH.then("link(8, 4, 10) = 1; link(8, 4, 20) = 1");
        Boundary.only(scene, "change(10, 20) = 1", "goes(8, 4, 0) = 20; goes(8, 4, 1) = 0; times(8, 2) = 20");
        Boundary.only(scene, "change(20, 10) = 1", "goes(8, 4, 1) = 0; times(8, 2) = 20");
    }

    // "where a field had both": the first and the last of all links
    private static void bothAndNoOthers() {
        Scene scene = Scene.records(2).then("link(1, 4, 20) = 1; link(1, 4, 10) = 1");
        Boundary.only(scene, "change(10, 20) = 1", "goes(1, 4, 1) = 0; times(1, 2) = 3");
        Boundary.only(scene, "change(20, 10) = 1", "goes(1, 4, 0) = 10; goes(1, 4, 1) = 0; times(1, 2) = 3");
    }

    // "the one that was made later", not the one that went there later
    private static void laterMadeNotLaterChanged() {
        Scene scene = RICH.then("link(8, 4, 10) = 1; link(8, 4, 30) = 1; link(8, 4, 20) = 1; change(10, 40) = 1");
        Boundary.only(scene, "change(20, 40) = 1", "goes(8, 4, 2) = 0; times(8, 4) = 22");
        Boundary.only(scene, "change(40, 20) = 1", "goes(8, 4, 0) = 20; goes(8, 4, 2) = 0; times(8, 4) = 22");
    }

    // "where a field had both": two fields, or two records, are not a field
    private static void bothInTwoFieldsOrRecords() {
        Scene scene = RICH.then("link(8, 4, 10) = 1; link(8, 5, 20) = 1; link(9, 4, 20) = 1");
        Boundary.only(scene, "change(10, 20) = 1", "goes(8, 4, 0) = 20; times(8, 2) = 21");
        Boundary.only(scene, "change(20, 10) = 2",
            "goes(8, 5, 0) = 10; goes(9, 4, 0) = 10; times(8, 2) = 21; times(9, 1) = 21");
    }

    // "where a field had both": in several fields at once; the gone ones went to the first too
    private static void bothInSeveralFields() {
        Scene scene = RICH.then("""
            link(8, 4, 10) = 1
            link(9, 9, 20) = 1
            link(8, 4, 20) = 1
            link(9, 9, 10) = 1
            link(10, 7, 10) = 1
            """);
        Boundary.only(scene, "change(10, 20) = 3", """
            goes(8, 4, 0) = 20
            goes(8, 4, 1) = 0
            goes(9, 9, 1) = 0
            goes(10, 7, 0) = 20
            times(8, 2) = 23
            times(9, 2) = 23
            times(10, 1) = 23
            """);
    }

    // "is gone": there is room in the field again, and the last link of all can be the gone one
    private static void goneMakesRoom() {
        Boundary.answers(RICH, """
            link(8, 4, 10) = 1
            link(8, 4, 30) = 1
            link(8, 4, 20) = 1
            link(8, 4, 40) = 0
            change(10, 20) = 1
            link(8, 4, 40) = 1
            goes(8, 4, 0) = 20
            goes(8, 4, 1) = 30
            goes(8, 4, 2) = 40
            link(8, 4, 10) = 0
            """);
    }

    // "0, and nothing but the MOMENT happens, if one is no heading": the first
    private static void firstIsNoHeading() {
        Boundary.refusedEach(RICH, "change(N, 50) = 0", 0, -1, 100, 101, Scenes.MIN, Scenes.MAX);
    }

    // "0 .. if one is no heading": the first, though links of records' fields go to that number
    private static void firstIsARecordAlone() {
        Boundary.refused(RICH, "change(3, 20) = 0");
        Boundary.refused(RICH, "change(4, 20) = 0");
    }

    // "0 .. if one is no heading": the other one
    private static void otherIsNoHeading() {
        Boundary.refusedEach(RICH, "change(50, N) = 0", 0, -1, 100, 101, Scenes.MIN, Scenes.MAX);
    }

    // "0 .. if one is no heading": both
    private static void bothAreNoHeadings() {
        Boundary.refused(RICH, "change(0, 100) = 0");
        Boundary.refused(RICH, "change(MIN, MAX) = 0");
        Boundary.refused(RICH, "change(100, 100) = 0");
    }

    // "0, and nothing but the MOMENT happens, if .. they are the same"
    private static void theSame() {
        Boundary.refusedEach(RICH, "change(N, N) = 0", 50, 1, 99, 2);
    }
}
