import java.util.ArrayList;
import java.util.List;

/** 'What it is', 'Terms', and the promises 1 and 2: a new object, and record. */
public final class BoundariesOfTerms {
    public static void main(String[] args) {
        Boundary.runAll(BoundariesOfTerms.class);
    }

    // "An object is used for at most 512 calls after it has been made"
    private static void whatItIsTheLastOf512Calls() {
        List<Call> calls = new ArrayList<>();
        for (int n = 0; n < 508; n++) {
            calls.add(new Call(0, "move", 1, 0));
        }
        Scene scene = Scene.records(1).then(calls);
        Boundary.answers(scene, "link(1, 9, 99) = 1; goes(1, 9, 0) = 99; times(1, 0) = 509");
    }

    // "RECORDS are 1 .. 60": the last one is one like any other
    private static void termsRecord60() {
        Scene scene = Scene.records(60).clock("link(1, 9, 99) = 1", 1);
        Boundary.only(scene, "link(60, 0, 59) = 1", """
            host(60) = 59
            chain(60, 0) = 59
            goes(60, 0, 0) = 59
            times(60, 0) = 1
            orphan(58) = 0
            orphan(59) = 0
            """);
        Boundary.answers(scene, "link(59, 1, 60) = 1; goes(59, 1, 0) = 60; delete(60) = 1; broken(0, 2) = 60");
        Boundary.only(scene, "move(60, 9) = 1", "house(60) = 9");
        Boundary.only(scene, "delete(60) = 1", "orphan(59) = 0");
    }

    // "RECORDS are 1 .. 60": 0 and 61 are none, when there are 60
    private static void termsRecord0And61() {
        Scene scene = Scene.records(60).clock("link(1, 9, 99) = 1", 1);
        for (int number : new int[] {0, 61}) {
            Boundary.refusedEach(scene, "link(N, 4, 1) = 0", number);
            Boundary.refusedEach(scene, "link(1, 2, N) = 0", number);
            Boundary.refusedEach(scene, "move(N, 1) = 0", number);
            Boundary.refusedEach(scene, "delete(N) = 0", number);
            Boundary.answersEach(scene, "house(N) = NONE; host(N) = 0; chain(N, 0) = 0", number);
            Boundary.answersEach(scene, "times(N, 0) = 0; goes(N, 0, 0) = 0", number);
        }
    }

    // "LIVE or DELETED": a deleted record's number stays its own
    private static void termsDeletedNumberIsNotGivenAgain() {
        Boundary.answers(Scene.records(3), "delete(2) = 1; record() = 4; delete(4) = 1; record() = 5");
    }

    // "each in a HOUSE, 0 .. 9 (0 at first)"
    private static void termsHouses() {
        Boundary.answers(Scene.empty(), "record() = 1; house(1) = 0");
        Boundary.answers(Scene.records(2), "move(1, 9) = 1; house(1) = 9; house(2) = 0; record() = 3; house(3) = 0");
        Boundary.answers(Scene.records(2), "move(1, 9) = 1; move(1, 0) = 1; house(1) = 0");
    }

    // "HEADINGS are the numbers 1 .. 99": they need not be records, and their numbers mean no record
    private static void termsHeadings() {
        for (int field = 4; field <= 9; field++) {
            String text = "link(1, F, 1) = 1; link(1, F, 99) = 1; goes(1, F, 0) = 1; goes(1, F, 1) = 99; "
                + "orphan(0) = 2; host(1) = 0; broken(0, 0) = NONE";
            Boundary.answers(Scene.records(2), text.replace("F", "" + field));
        }
    }

    // "0 HOST, to a record .. 1 SERIES, to records .. 2 and 3, to records": a heading's number won't do
    private static void termsFieldsOfRecordsTakeNoHeading() {
        for (int field = 0; field <= 3; field++) {
            Boundary.refusedEach(Scenes.RICH, "link(8, " + field + ", N) = 0", 17, 50, 60, 99);
        }
    }

    // "Links stand in the order in which they were made, whatever they go to since then": change
    private static void termsOrderAfterChange() {
        Boundary.answers(Scene.records(2), """
            link(1, 4, 10) = 1
            link(1, 4, 20) = 1
            link(1, 4, 30) = 1
            change(10, 40) = 1
            goes(1, 4, 0) = 40
            goes(1, 4, 1) = 20
            goes(1, 4, 2) = 30
            goes(1, 4, 3) = 0
            """);
    }

    // "Links stand in the order in which they were made, whatever they go to since then": repair
    private static void termsOrderAfterRepair() {
        Boundary.answers(Scene.records(6), """
            link(2, 0, 1) = 1
            link(4, 2, 2) = 1
            link(4, 2, 3) = 1
            link(5, 2, 3) = 1
            delete(2) = 1
            repair(0) = 1
            goes(4, 2, 0) = 1
            goes(4, 2, 1) = 3
            delete(3) = 1
            delete(1) = 1
            broken(0, 2) = 1
            broken(1, 0) = 4
            broken(1, 2) = 3
            broken(2, 0) = 5
            broken(3, 0) = NONE
            """);
    }

    // "A record LIES IN another one if that is its HOST, or its HOST lies in it": not in itself, nor
    // is the host in its part, nor one part in another one
    private static void termsLiesIn() {
        Scene scene = Scene.records(5).then("link(1, 0, 2) = 1; link(2, 0, 3) = 1; link(4, 0, 2) = 1");
        Boundary.answers(scene, "chain(1, 0) = 2; chain(1, 1) = 3; chain(1, 2) = 0; chain(3, 0) = 0");
        Boundary.only(scene, "move(1, 1) = 1", "house(1) = 1");
        Boundary.only(scene, "move(2, 1) = 3", "house(1) = 1; house(2) = 1; house(4) = 1");
        Boundary.only(scene, "move(3, 1) = 4", "house(1) = 1; house(2) = 1; house(3) = 1; house(4) = 1");
    }

    // "A link is BROKEN if it goes to a record that is DELETED": each field of records, no heading
    private static void termsBroken() {
        for (int field = 1; field <= 3; field++) {
            Boundary.answers(Scene.records(2), "link(1, F, 2) = 1; broken(0, 0) = NONE; delete(2) = 1; broken(0, 1) = F"
                .replace("F", "" + field));
        }
        for (int field = 4; field <= 9; field++) {
            Boundary.answers(Scene.records(2), "link(1, F, 2) = 1; delete(2) = 1; broken(0, 0) = NONE; goes(1, F, 0) = 2"
                .replace("F", "" + field));
        }
    }

    // "Links of a record that is DELETED go with it": of each field, the broken ones too
    private static void termsLinksOfADeletedRecord() {
        for (int field = 0; field <= 9; field++) {
            Boundary.answers(Scene.records(2), "link(1, F, 2) = 1; delete(1) = 1; goes(1, F, 0) = 0; orphan(0) = 2"
                .replace("F", "" + field));
        }
        Boundary.answers(Scene.records(2), """
            link(1, 3, 2) = 1
            delete(2) = 1
            broken(0, 0) = 1
            delete(1) = 1
            broken(0, 0) = NONE
            repair(0) = NONE
            """);
    }

    // "Each call that makes, changes or takes away links of a record is a CHANGE of it": one CHANGE,
    // however many links it meets
    private static void termsOneCallIsOneChange() {
        Scene scene = Scene.records(3).then("link(1, 4, 5) = 1; link(1, 5, 5) = 1; link(2, 4, 5) = 1; link(2, 4, 6) = 1");
        Boundary.only(scene, "change(5, 6) = 3", """
            goes(1, 4, 0) = 6
            goes(1, 5, 0) = 6
            goes(2, 4, 0) = 6
            goes(2, 4, 1) = 0
            times(1, 2) = 5
            times(2, 2) = 5
            """);
        Boundary.only(scene, "delete(1) = 1", "goes(1, 4, 0) = 0; goes(1, 5, 0) = 0; times(1, 2) = 5");
    }

    // "a CHANGE of it": not of the record to which the link goes
    private static void termsChangeIsOfTheLinksRecordAlone() {
        Scene scene = Scene.records(4).then("link(2, 0, 1) = 1; link(3, 1, 2) = 1");
        Boundary.answers(scene, "times(1, 0) = 0; times(2, 0) = 1; times(2, 1) = 0");
        Boundary.answers(scene, "delete(2) = 1; times(1, 0) = 0; times(3, 0) = 2; times(3, 1) = 0");
        Boundary.answers(scene, "delete(2) = 1; repair(0) = 1; times(1, 0) = 0; times(3, 1) = 4");
    }

    // "how many calls of link, change, repair, delete, move there were, this one too"
    private static void termsMomentCountsTheFive() {
        Scene scene = Scene.records(5);
        Boundary.answers(scene, "link(1, 4, 1) = 1; times(1, 0) = 1");
        String[] ones = {"link(2, 4, 1) = 1", "change(8, 9) = 0", "repair(0) = NONE", "delete(5) = 1", "move(1, 1) = 1"};
        for (String one : ones) {
            Boundary.answers(scene, one + "; link(1, 4, 1) = 1; times(1, 0) = 2");
        }
        Boundary.answers(scene, String.join(";", ones) + "; link(1, 4, 1) = 1; times(1, 0) = 6");
    }

    // "how many calls of link, change, repair, delete, move": of no others
    private static void termsMomentCountsNoOthers() {
        Boundary.answers(Scene.records(2), """
            record() = 3
            broken(0, 0) = NONE
            chain(1, 0) = 0
            ring(0) = 0
            host(1) = 0
            times(1, 0) = 0
            orphan(0) = 1
            house(1) = 0
            goes(1, 4, 0) = 0
            link(1, 4, 1) = 1
            times(1, 0) = 1
            """);
        Boundary.answers(Scene.records(60), "record() = 0; link(1, 4, 1) = 1; times(1, 0) = 1");
    }

    // Promise 1: "No records."
    private static void promise1NothingIsThere() {
        for (int r = 0; r <= 2; r++) {
            Boundary.answersEach(Scene.empty(), """
                house(N) = NONE
                host(N) = 0
                chain(N, 0) = 0
                times(N, 0) = 0
                goes(N, 0, 0) = 0
                goes(N, 4, 0) = 0
                """, r);
        }
        Boundary.answers(Scene.empty(), "orphan(0) = 0; ring(0) = 0; broken(0, 0) = NONE; broken(0, 2) = NONE");
    }

    // Promise 1: "No records.": nothing can be done with one, and record() starts at 1 all the same
    private static void promise1NothingCanBeDone() {
        String[] refused = {"link(1, 4, 1) = 0", "link(1, 0, 2) = 0", "link(0, 4, 1) = 0", "change(1, 2) = 0",
            "repair(0) = NONE", "move(1, 1) = 0", "move(0, 1) = 0", "delete(1) = 0", "delete(0) = 0"};
        for (String call : refused) {
            Boundary.answers(Scene.empty(), call + "; record() = 1; link(1, 4, 1) = 1; times(1, 0) = 2");
            Boundary.refused(Scene.empty(), call);
        }
    }

    // Promise 2: "A record more, LIVE, in house 0: its number"
    private static void promise2TheFirstAndTheSecond() {
        Boundary.answers(Scene.empty(), "record() = 1; house(1) = 0; house(2) = NONE; orphan(0) = 1; orphan(1) = 0");
        Boundary.only(Scene.records(1), "record() = 2", "house(2) = 0; orphan(1) = 2");
    }

    // Promise 2: "0 if there are 60": 60 can be made, and no more
    private static void promise2TheLastAndOneMore() {
        Scene scene = Scene.records(59).clock("link(1, 9, 99) = 1", 1);
        Boundary.only(scene, "record() = 60", "house(60) = 0; orphan(59) = 60");
        Scene all = Scene.records(60).clock("link(1, 9, 99) = 1", 1);
        Boundary.refused(all, "record() = 0");
        Boundary.answers(all, "record() = 0; record() = 0; house(61) = NONE");
        Boundary.refused(Scenes.LONGEST, "record() = 0");
    }

    // Promise 2: "0 if there are 60": a DELETED record is one of them
    private static void promise2DeletedOnesCount() {
        Boundary.refused(Scene.records(60).then("delete(60) = 1; delete(1) = 1").clock("link(2, 9, 99) = 1", 2), "record() = 0");
    }
}
