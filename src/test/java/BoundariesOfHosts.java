/** The promises 7, 8 and 9: chain, ring and host. */
public final class BoundariesOfHosts {
    private static final Scene RICH = Scenes.RICH;

    public static void main(String[] args) {
        Boundary.runAll(BoundariesOfHosts.class);
    }

    // Promise 7: "The i-th record in which one LIES, from its HOST on outwards; 0 past the end"
    private static void promise7ToTheEnd() {
        Boundary.answers(RICH, "chain(3, 0) = 2; chain(3, 1) = 1; chain(3, 2) = 0; chain(3, 3) = 0");
        Boundary.answers(RICH, "chain(2, 0) = 1; chain(2, 1) = 0; chain(1, 0) = 0");
        Boundary.refusedEach(RICH, "chain(3, N) = 0", -1, 2, 3, 59, 60, 61, Scenes.MIN, Scenes.MAX);
    }

    // Promise 7: "0 past the end": the longest way there can be
    private static void promise7Longest() {
        Boundary.answers(Scenes.LONGEST, "chain(1, 0) = 2; chain(1, 57) = 59; chain(1, 58) = 60; chain(1, 59) = 0");
        Boundary.answersEach(Scenes.LONGEST, "chain(1, N) = 0", -1, 59, 60, 61, Scenes.MIN, Scenes.MAX);
        Boundary.answers(Scenes.LONGEST, "chain(59, 0) = 60; chain(59, 1) = 0; chain(60, 0) = 0");
    }

    // Promise 7: "0 .. if there is no such record"
    private static void promise7NoSuchRecord() {
        Boundary.refusedEach(RICH, "chain(N, 0) = 0", 0, -1, 17, 60, 61, Scenes.MIN, Scenes.MAX);
        Boundary.refused(RICH, "chain(MIN, MIN) = 0");
        Boundary.refused(RICH, "chain(MAX, MAX) = 0");
    }

    // Promise 7: "0 .. or it is DELETED": it had a HOST
    private static void promise7Deleted() {
        Boundary.refusedEach(RICH, "chain(4, N) = 0", 0, 1, 2);
        Boundary.answers(Scene.records(2), "link(1, 0, 2) = 1; chain(1, 0) = 2; delete(1) = 1; chain(1, 0) = 0");
    }

    // Promise 7: only a HOST link leads outwards
    private static void promise7OtherFields() {
        Boundary.answers(RICH, "chain(5, 0) = 0; chain(6, 0) = 0");
        Boundary.answers(RICH, "link(9, 1, 8) = 1; link(9, 2, 8) = 1; link(9, 3, 8) = 1; link(9, 4, 8) = 1; chain(9, 0) = 0");
    }

    // Promise 8: "from the one to which it should have gone, outwards, to the one from which it should
    // have come; 0 past its end"
    private static void promise8ToTheEnd() {
        Boundary.answers(RICH, "ring(0) = 3; ring(1) = 2; ring(2) = 1; ring(3) = 0; ring(4) = 0");
        Boundary.refusedEach(RICH, "ring(N) = 0", -1, 3, 4, 59, 60, 61, Scenes.MIN, Scenes.MAX);
    }

    // Promise 8: "to the one from which it should have come": and no further out
    private static void promise8NoFurtherOut() {
        Boundary.answers(RICH, "link(9, 0, 8) = 1; link(10, 0, 9) = 1; link(8, 0, 10) = 0; ring(0) = 10; ring(2) = 8; ring(3) = 0");
    }

    // Promise 8: "0 past its end": the longest way there can be
    private static void promise8Longest() {
        Scene scene = Scenes.LONGEST.then("link(60, 0, 1) = 0");
        Boundary.answers(scene, "ring(0) = 1; ring(1) = 2; ring(58) = 59; ring(59) = 60; ring(60) = 0; ring(61) = 0");
        Boundary.answersEach(scene, "ring(N) = 0", -1, Scenes.MIN, Scenes.MAX);
    }

    // Promise 8: "or if there was none"
    private static void promise8NoneYet() {
        Scene scene = Scene.records(3).then("link(1, 0, 2) = 1; link(2, 0, 2) = 0; link(1, 0, 3) = 0; link(2, 1, 1) = 1");
        Boundary.refusedEach(scene, "ring(N) = 0", 0, 1, -1, Scenes.MIN, Scenes.MAX);
        Boundary.answers(Scene.empty(), "ring(0) = 0");
    }

    // Promise 8: "the latest link": a shorter way after a longer one, and a longer one after a shorter
    private static void promise8TheLatest() {
        Scene scene = RICH.then("link(9, 0, 8) = 1; link(10, 0, 9) = 1; link(11, 0, 10) = 1");
        Boundary.answers(scene, "link(8, 0, 11) = 0; link(8, 0, 9) = 0; ring(0) = 9; ring(1) = 8; ring(2) = 0; ring(3) = 0");
        Boundary.answers(scene, "link(8, 0, 9) = 0; link(8, 0, 11) = 0; ring(0) = 11; ring(3) = 8; ring(4) = 0");
    }

    // Promise 8: "of field 0 that was refused because of the way": a refusal on each other ground
    // leaves it alone
    private static void promise8OtherRefusals() {
        String[] others = {"link(0, 0, 3) = 0", "link(17, 0, 3) = 0", "link(4, 0, 3) = 0", "link(1, 0, 0) = 0",
            "link(1, 0, 17) = 0", "link(1, 0, 4) = 0", "link(1, 0, 1) = 0", "link(2, 0, 1) = 0", "link(3, 0, 8) = 0",
            "link(1, -1, 2) = 0", "link(1, 10, 2) = 0", "link(1, 4, 0) = 0", "link(1, 1, 1) = 0"};
        for (String call : others) {
            Boundary.refused(RICH, call);
        }
        Boundary.refused(Scenes.FULL, "link(9, 0, 10) = 0");
    }

    // Promise 8: the grounds in the document's order: one that has a HOST, or when there are 200, is
    // not refused because of the way
    private static void promise8EarlierGrounds() {
        Boundary.refused(RICH, "link(2, 0, 3) = 0");
        Boundary.refused(Scenes.FULL, "link(12, 0, 2) = 0");
    }

    // Promise 8: what is made, moved, or deleted later leaves it alone
    private static void promise8Stays() {
        Boundary.answers(RICH, """
            link(8, 0, 9) = 1
            link(1, 0, 8) = 1
            move(8, 3) = 4
            delete(3) = 1
            delete(2) = 1
            delete(1) = 1
            ring(0) = 3
            ring(1) = 2
            ring(2) = 1
            ring(3) = 0
            """);
    }

    // Promise 9: "A record's HOST; 0 if it has none"
    private static void promise9HostOrNone() {
        Boundary.answers(RICH, "host(2) = 1; host(3) = 2; host(1) = 0; host(8) = 0; host(5) = 0; host(6) = 0");
        Boundary.answers(Scenes.LONGEST, "host(1) = 2; host(59) = 60; host(60) = 0");
    }

    // Promise 9: "0 .. or there is no such record"
    private static void promise9NoSuchRecord() {
        Boundary.refusedEach(RICH, "host(N) = 0", 0, -1, 17, 60, 61, Scenes.MIN, Scenes.MAX);
    }

    // Promise 9: "0 .. or it is DELETED": it had one
    private static void promise9Deleted() {
        Boundary.refused(RICH, "host(4) = 0");
        Boundary.refused(RICH, "host(7) = 0");
    }
}
