/** Promise 3, link: each ground on which it is refused, by itself, and what is no ground. */
public final class BoundariesOfLink {
    private static final Scene RICH = Scenes.RICH;
    private static final Scene FULL = Scenes.FULL;
    private static final int[] MOST = {1, 2, 5, 5, 3, 3, 3, 3, 3, 3};

    public static void main(String[] args) {
        Boundary.runAll(BoundariesOfLink.class);
    }

    // "A link of a record's field to a record, or heading: 1"
    private static void made() {
        Boundary.only(RICH, "link(8, 0, 9) = 1",
            "goes(8, 0, 0) = 9; host(8) = 9; chain(8, 0) = 9; times(8, 0) = 18; " + orphansFrom(10));
        for (int field = 1; field <= 3; field++) {
            Boundary.only(RICH, "link(8, " + field + ", 9) = 1",
                "goes(8, " + field + ", 0) = 9; times(8, 0) = 18; " + orphansFrom(10));
        }
        for (int field = 4; field <= 9; field++) {
            Boundary.only(RICH, "link(8, " + field + ", 9) = 1",
                "goes(8, " + field + ", 0) = 9; times(8, 0) = 18; " + orphansFrom(9));
        }
    }

    /** The orphans of RICH, which are 8 .. 16, from one of them on alone. */
    private static String orphansFrom(int first) {
        StringBuilder rows = new StringBuilder();
        for (int i = 0; i < 9; i++) {
            rows.append("orphan(").append(i).append(") = ").append(first + i <= 16 ? first + i : 0).append("; ");
        }
        return rows.toString();
    }

    // "0 .. if one is not there": the record from which it comes
    private static void fromNotThere() {
        for (int field : new int[] {0, 1, 2, 3, 4, 9}) {
            Boundary.answers(RICH, "link(16, " + field + ", 9) = 1");
            Boundary.refusedEach(RICH, "link(N, " + field + ", 9) = 0", 0, -1, 17, 60, 61, Scenes.MIN, Scenes.MAX);
        }
    }

    // "0 .. if one is not there": the record to which it goes
    private static void toRecordNotThere() {
        for (int field = 0; field <= 3; field++) {
            Boundary.answers(RICH, "link(8, " + field + ", 1) = 1");
            Boundary.answers(RICH, "link(8, " + field + ", 16) = 1");
            Boundary.refusedEach(RICH, "link(8, " + field + ", N) = 0", 0, -1, 17, 60, 61, Scenes.MIN, Scenes.MAX);
        }
    }

    // "0 .. if one is not there": the heading
    private static void toHeadingNotThere() {
        for (int field = 4; field <= 9; field++) {
            Boundary.answers(RICH, "link(8, " + field + ", 1) = 1");
            Boundary.answers(RICH, "link(8, " + field + ", 99) = 1");
            Boundary.refusedEach(RICH, "link(8, " + field + ", N) = 0", 0, -1, 100, Scenes.MIN, Scenes.MAX);
        }
    }

    // "or DELETED": the record from which it comes
    private static void fromDeleted() {
        for (int field = 0; field <= 9; field++) {
            Boundary.refusedEach(RICH, "link(N, " + field + ", 9) = 0", 4, 7);
        }
    }

    // "or DELETED": the record to which it goes; a heading of that number is none
    private static void toDeleted() {
        for (int field = 0; field <= 3; field++) {
            Boundary.refusedEach(RICH, "link(8, " + field + ", N) = 0", 4, 7);
        }
        for (int field = 4; field <= 9; field++) {
            Boundary.answersEach(RICH, "link(8, " + field + ", N) = 1; broken(3, 0) = NONE", 4, 7);
        }
    }

    // "or it is the same record"; a heading of that number is none
    private static void sameRecord() {
        for (int field = 0; field <= 3; field++) {
            Boundary.refusedEach(RICH, "link(N, " + field + ", N) = 0", 8, 1, 16);
        }
        for (int field = 4; field <= 9; field++) {
            Boundary.answersEach(RICH, "link(N, " + field + ", N) = 1", 8, 1, 16);
        }
    }

    // "there is no such field": with a number that is both a record and a heading
    private static void noSuchField() {
        Boundary.answersEach(RICH, "link(8, N, 9) = 1", 0, 9);
        Boundary.refusedEach(RICH, "link(8, N, 9) = 0", -1, 10, 11, Scenes.MIN, Scenes.MAX);
    }

    // "the field has as many as it may": one, two, five, five, and three each
    private static void fieldIsFull() {
        for (int field = 0; field <= 9; field++) {
            Scene almost = RICH;
            for (int n = 0; n < MOST[field] - 1; n++) {
                almost = almost.then("link(8, " + field + ", " + (9 + n) + ") = 1");
            }
            int last = 8 + MOST[field];
            Scene full = almost.then("link(8, " + field + ", " + last + ") = 1");
            Boundary.answers(full, "goes(8, F, M) = L".replace("F", "" + field).replace("M", "" + (MOST[field] - 1))
                .replace("L", "" + last));
            Boundary.refused(full, "link(8, " + field + ", " + (last + 1) + ") = 0");
        }
    }

    // "the field has as many as it may": a field's links are its own, and its record's own
    private static void anotherFieldOrRecordIsNotFull() {
        for (int field = 0; field <= 9; field++) {
            Scene full = RICH;
            for (int n = 0; n < MOST[field]; n++) {
                full = full.then("link(8, " + field + ", " + (9 + n) + ") = 1");
            }
            Boundary.answers(full, "link(15, " + field + ", 14) = 1");
            for (int other = 0; other <= 9; other++) {
                Boundary.answers(full, "link(8, " + other + ", 15) = " + (other == field ? 0 : 1));
            }
        }
    }

    // "the field has as many as it may": a BROKEN link is one of them, until it is taken away
    private static void brokenLinksFillAField() {
        Scene full = RICH.then("link(8, 1, 9) = 1; link(8, 1, 10) = 1; delete(9) = 1");
        Boundary.refused(full, "link(8, 1, 11) = 0");
        Boundary.answers(full, "repair(3) = 0; link(8, 1, 11) = 1; goes(8, 1, 0) = 10; goes(8, 1, 1) = 11");
    }

    // "or that very link": in a field that has room
    private static void thatVeryLink() {
        for (int field = 1; field <= 9; field++) {
            Scene scene = RICH.then("link(8, " + field + ", 9) = 1");
            Boundary.refused(scene, "link(8, " + field + ", 9) = 0");
            Boundary.answers(scene, "link(8, " + field + ", 10) = 1");
        }
        Boundary.refused(RICH.then("link(8, 0, 9) = 1"), "link(8, 0, 9) = 0");
    }

    // "or that very link": of another field, another record, or back, it is another one
    private static void notThatVeryLink() {
        Boundary.answers(RICH, "link(8, 2, 9) = 1; link(8, 3, 9) = 1; link(8, 1, 9) = 1; link(10, 2, 9) = 1; link(9, 2, 8) = 1");
        Boundary.answers(RICH, "link(8, 4, 9) = 1; link(8, 5, 9) = 1; link(10, 4, 9) = 1; link(8, 4, 10) = 1");
    }

    // "there are 200": the 200th can be made
    private static void the200th() {
        Scene almost = FULL.then("change(1, 2) = 2; link(9, 4, 1) = 1").clock("delete(7) = 1", 7);
        Boundary.only(almost, "link(9, 4, 99) = 1", "goes(9, 4, 1) = 99; times(9, 1) = 204");
        Boundary.refused(almost.then("link(9, 4, 99) = 1"), "link(9, 4, 98) = 0");
    }

    // "there are 200": of each field
    private static void oneMoreThan200() {
        for (int field = 0; field <= 9; field++) {
            Boundary.refused(FULL, "link(9, " + field + ", 10) = 0");
        }
    }

    // "LINKS, at most 200 at once": what delete, change and repair take away makes room for as many
    private static void roomAfter200() {
        Boundary.answers(FULL, "change(1, 2) = 2; link(9, 4, 1) = 1; link(9, 4, 2) = 1; link(9, 4, 3) = 0");
        Boundary.answers(FULL, "change(1, 99) = 2; link(9, 4, 1) = 0");
        Boundary.answers(FULL, "delete(7) = 1; link(9, 4, 1) = 1; link(9, 4, 2) = 1; link(9, 4, 3) = 0");
        Boundary.answers(FULL, "delete(10) = 1; link(9, 4, 1) = 0; repair(0) = 0; link(9, 4, 1) = 1; link(9, 4, 2) = 0");
    }

    // "of field 0, the record to which it goes LIES IN the one from which it comes": its part
    private static void wayOfTwo() {
        Scene scene = RICH.then("link(9, 0, 8) = 1");
        Boundary.only(scene, "link(8, 0, 9) = 0", "ring(0) = 9; ring(1) = 8; ring(2) = 0");
    }

    // "LIES IN": the part of a part
    private static void wayOfThreeAndFour() {
        Scene scene = RICH.then("link(9, 0, 8) = 1; link(10, 0, 9) = 1; link(11, 0, 10) = 1");
        Boundary.only(scene, "link(8, 0, 10) = 0", "ring(0) = 10; ring(1) = 9; ring(2) = 8");
        Boundary.only(scene, "link(8, 0, 11) = 0", "ring(0) = 11; ring(1) = 10; ring(2) = 9; ring(3) = 8");
    }

    // "LIES IN": as far as 60 records go
    private static void wayOf60() {
        StringBuilder way = new StringBuilder();
        for (int i = 0; i < 60; i++) {
            way.append("ring(").append(i).append(") = ").append(i + 1).append("; ");
        }
        Boundary.only(Scenes.LONGEST, "link(60, 0, 1) = 0", way.toString());
    }

    // "of field 0": the other fields may go round
    private static void otherFieldsMayGoRound() {
        Scene scene = RICH.then("link(9, 0, 8) = 1");
        for (int field = 1; field <= 3; field++) {
            Boundary.answers(scene, "link(8, " + field + ", 9) = 1; ring(0) = 3");
        }
        Boundary.answers(RICH, "link(8, 1, 9) = 1; link(9, 1, 8) = 1; link(8, 0, 9) = 1");
    }

    // "LIES IN": two parts of one host, and a part that goes further out, are no ring
    private static void noRing() {
        Boundary.answers(RICH, "link(9, 0, 8) = 1; link(10, 0, 8) = 1; link(8, 0, 11) = 1; ring(0) = 3; chain(9, 1) = 11");
        Boundary.answers(RICH, "link(1, 0, 8) = 1; chain(3, 2) = 8; ring(0) = 3");
    }

    // "LIES IN": a deleted part is in nothing; what was its host may go where it likes
    private static void noRingThroughADeletedPart() {
        Boundary.answers(RICH, "link(9, 0, 8) = 1; delete(9) = 1; link(8, 0, 10) = 1; link(10, 0, 11) = 1; ring(0) = 3");
    }
}
