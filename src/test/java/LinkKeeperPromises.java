/** Each promise of the document by itself: ordinary inputs, its edges, and wrong inputs. */
public final class LinkKeeperPromises {
    private static final int[] FAR = {Integer.MIN_VALUE, -2, -1, Integer.MAX_VALUE};

    private static int wrong = 0;
    private static int asked = 0;

    public static void main(String[] args) {
        promise1NewObject();
        promise2Record();
        promise3LinkAsMade();
        promise3LinkRefused();
        promise3LinkFieldLimits();
        promise3LinkLimitOfAll();
        promise3LinkWithoutRings();
        promise3RefusedLinkCountsAsMoment();
        promise4Change();
        promise4ChangeWhereAFieldHadBoth();
        promise4ChangeToAndFro();
        promise4ChangeRefused();
        promise5Broken();
        promise6RepairGoesToHost();
        promise6RepairTakesAway();
        promise6RepairOfAFullField();
        promise6RepairWithAllLinksMade();
        promise6RepairOfNone();
        promise7Chain();
        promise7LongestChain();
        promise8Ring();
        promise8RingStays();
        promise9Host();
        promise10Move();
        promise10MoveRefused();
        promise11Delete();
        promise11DeleteRefused();
        promise12Times();
        promise12TimesOfEachKindOfCall();
        promise12TimesOncePerCall();
        promise12FirstForty();
        promise13Orphan();
        promise14House();
        promise15Goes();
        System.out.println(asked + " answers looked at, " + wrong + " not as due");
        if (wrong != 0) {
            System.exit(1);
        }
    }

    private static void due(String what, int got, int want) {
        asked++;
        if (got != want) {
            wrong++;
            System.out.println(what + " answered " + got + ", due is " + want);
        }
    }

    private static LinkKeeper withRecords(int count) {
        LinkKeeper x = new LinkKeeper();
        for (int r = 1; r <= count; r++) {
            due("record() number " + r, x.record(), r);
        }
        return x;
    }

    private static void linkAll(String what, LinkKeeper x, int[][] links) {
        for (int[] l : links) {
            due(what + ": link(" + l[0] + ", " + l[1] + ", " + l[2] + ")", x.link(l[0], l[1], l[2]), 1);
        }
    }

    private static void dueGoes(String what, LinkKeeper x, int record, int field, int... wants) {
        for (int i = 0; i < wants.length; i++) {
            due(what + ": goes(" + record + ", " + field + ", " + i + ")", x.goes(record, field, i), wants[i]);
        }
        due(what + ": goes past the end", x.goes(record, field, wants.length), 0);
    }

    private static void dueTimes(String what, LinkKeeper x, int record, int... wants) {
        for (int i = 0; i < wants.length; i++) {
            due(what + ": times(" + record + ", " + i + ")", x.times(record, i), wants[i]);
        }
        due(what + ": times past the end", x.times(record, wants.length), 0);
    }

    private static void dueBroken(String what, LinkKeeper x, int i, int record, int field, int to) {
        due(what + ": broken(" + i + ", 0)", x.broken(i, 0), record);
        due(what + ": broken(" + i + ", 1)", x.broken(i, 1), field);
        due(what + ": broken(" + i + ", 2)", x.broken(i, 2), to);
    }

    private static void dueRing(String what, LinkKeeper x, int... wants) {
        for (int i = 0; i < wants.length; i++) {
            due(what + ": ring(" + i + ")", x.ring(i), wants[i]);
        }
        due(what + ": ring past the end", x.ring(wants.length), 0);
    }

    private static void promise1NewObject() {
        LinkKeeper x = new LinkKeeper();
        due("NONE", LinkKeeper.NONE, -1);
        for (int r = 0; r <= 61; r++) {
            due("new: house", x.house(r), -1);
            due("new: host", x.host(r), 0);
            due("new: chain", x.chain(r, 0), 0);
            due("new: times", x.times(r, 0), 0);
            due("new: goes", x.goes(r, 0, 0), 0);
            due("new: delete", x.delete(r), 0);
            due("new: move", x.move(r, 1), 0);
        }
        due("new: link", x.link(1, 4, 1), 0);
        due("new: orphan", x.orphan(0), 0);
        due("new: ring", x.ring(0), 0);
        due("new: broken", x.broken(0, 0), -1);
        due("new: repair", x.repair(0), -1);
        due("new: change", x.change(1, 2), 0);
        LinkKeeper other = new LinkKeeper();
        due("one object's record", x.record(), 1);
        due("another object has it not", other.house(1), -1);
    }

    private static void promise2Record() {
        LinkKeeper x = withRecords(60);
        due("record past 60", x.record(), 0);
        due("record past 60 again", x.record(), 0);
        due("house of the last", x.house(60), 0);
        due("house past the last", x.house(61), -1);
        due("the last is live", x.delete(60), 1);
        due("a deleted record still counts", x.record(), 0);
        due("calls of record are no moments", x.link(1, 4, 1), 1);
        dueTimes("after 62 calls of record", x, 1, 2);
    }

    private static void promise3LinkAsMade() {
        LinkKeeper x = withRecords(3);
        for (int field = 1; field <= 3; field++) {
            due("to a record", x.link(1, field, 2), 1);
            due("back again, no host", x.link(2, field, 1), 1);
            dueGoes("to a record", x, 1, field, 2);
        }
        for (int field = 4; field <= 9; field++) {
            due("heading 1", x.link(1, field, 1), 1);
            due("heading 99", x.link(1, field, 99), 1);
            dueGoes("to headings", x, 1, field, 1, 99);
        }
        due("host", x.link(1, 0, 2), 1);
        due("host is told", x.host(1), 2);
        due("a heading with a record's number", x.link(3, 4, 3), 1);
    }

    private static void promise3LinkRefused() {
        LinkKeeper x = withRecords(4);
        due("delete", x.delete(4), 1);
        for (int field = 0; field <= 9; field++) {
            due("from none", x.link(0, field, 1), 0);
            due("from one that is not there", x.link(5, field, 1), 0);
            due("from a deleted one", x.link(4, field, 1), 0);
            due("to 0", x.link(1, field, 0), 0);
            due("to 100", x.link(1, field, 100), 0);
            for (int far : FAR) {
                due("from far", x.link(far, field, 1), 0);
                due("to far", x.link(1, field, far), 0);
                due("field far", x.link(1, far, 2), 0);
            }
            dueGoes("refused", x, 1, field);
        }
        for (int field = 0; field <= 3; field++) {
            due("to itself", x.link(1, field, 1), 0);
            due("to one that is not there", x.link(1, field, 5), 0);
            due("to a deleted one", x.link(1, field, 4), 0);
            dueGoes("refused", x, 1, field);
        }
        due("field 10", x.link(1, 10, 2), 0);
        due("a heading with a deleted record's number", x.link(1, 4, 4), 1);
        due("that very link to a heading", x.link(1, 4, 4), 0);
        due("the same heading in another field", x.link(1, 5, 4), 1);
        due("a record", x.link(1, 2, 3), 1);
        due("that very link to a record", x.link(1, 2, 3), 0);
        due("the same record in another field", x.link(1, 3, 3), 1);
        due("the same record from another one", x.link(2, 2, 3), 1);
        dueRing("none refused because of the way", x);
    }

    private static void promise3LinkFieldLimits() {
        int[] most = {1, 2, 5, 5, 3, 3, 3, 3, 3, 3};
        LinkKeeper x = withRecords(10);
        for (int field = 0; field <= 9; field++) {
            for (int n = 0; n < most[field]; n++) {
                due("field " + field + " link " + n, x.link(1, field, n + 2), 1);
            }
            due("field " + field + " is full", x.link(1, field, most[field] + 2), 0);
            due("field " + field + " has as many", x.goes(1, field, most[field] - 1), most[field] + 1);
            due("field " + field + " has no more", x.goes(1, field, most[field]), 0);
        }
    }

    /** 200 links: 31 of each of the records 1 .. 6, two of record 7, and 12 of record 8. */
    private static LinkKeeper withAllLinks() {
        LinkKeeper x = withRecords(20);
        for (int r = 1; r <= 6; r++) {
            linkAll("many", x, new int[][] {{r, 0, 12}, {r, 1, 10}, {r, 1, 11}});
            for (int n = 0; n < 5; n++) {
                linkAll("many", x, new int[][] {{r, 2, 10 + n}, {r, 3, 10 + n}});
            }
            for (int n = 0; n < 18; n++) {
                linkAll("many", x, new int[][] {{r, 4 + n / 3, 50 + n}});
            }
        }
        linkAll("many", x, new int[][] {{7, 4, 1}, {7, 4, 2}});
        for (int n = 0; n < 12; n++) {
            linkAll("many", x, new int[][] {{8, 4 + n / 3, 1 + n}});
        }
        return x;
    }

    private static void promise3LinkLimitOfAll() {
        LinkKeeper x = withAllLinks();
        due("the 201st link", x.link(9, 4, 1), 0);
        due("the 201st link, of field 0", x.link(9, 0, 1), 0);
        due("a field of 7 and one of 8 had both", x.change(1, 2), 2);
        due("room for one", x.link(9, 4, 1), 1);
        due("room for a second", x.link(9, 4, 2), 1);
        due("and no more", x.link(9, 4, 3), 0);
        due("delete one with 12 links", x.delete(8), 1);
        for (int n = 0; n < 11; n++) {
            due("room after delete", x.link(19, 4 + n / 3, 60 + n), 1);
        }
        due("none after that", x.link(20, 4, 3), 0);
    }

    private static void promise3LinkWithoutRings() {
        LinkKeeper x = withRecords(4);
        linkAll("hosts", x, new int[][] {{1, 0, 2}, {2, 0, 3}});
        due("a ring of two", x.link(2, 0, 1), 0);
        due("a ring of three", x.link(3, 0, 1), 0);
        due("the host is not set", x.host(3), 0);
        due("another field may go that way", x.link(3, 1, 1), 1);
        due("the outermost goes further out", x.link(3, 0, 4), 1);
        due("a ring of four", x.link(4, 0, 1), 0);
        due("the part goes away", x.delete(1), 1);
        due("a ring of three still", x.link(4, 0, 2), 0);
    }

    private static void promise3RefusedLinkCountsAsMoment() {
        LinkKeeper x = withRecords(2);
        due("refused", x.link(1, 10, 2), 0);
        due("refused", x.link(1, 1, 1), 0);
        due("made", x.link(1, 1, 2), 1);
        dueTimes("only the made one", x, 1, 3);
        dueTimes("not of the one to which it goes", x, 2);
    }

    private static void promise4Change() {
        LinkKeeper x = withRecords(12);
        linkAll("change", x, new int[][] {
            {1, 4, 10}, {1, 4, 11}, {1, 5, 10}, {2, 9, 10}, {3, 4, 12}, {1, 2, 10}, {3, 2, 12}});
        due("three links", x.change(10, 99), 3);
        dueGoes("keeps its place", x, 1, 4, 99, 11);
        dueGoes("other field", x, 1, 5, 99);
        dueGoes("other record", x, 2, 9, 99);
        dueGoes("another heading stays", x, 3, 4, 12);
        dueGoes("a record of that number stays", x, 1, 2, 10);
        due("none is left", x.change(10, 98), 0);
        due("to 1", x.change(99, 1), 3);
        due("links to records are none to headings", x.change(12, 2), 1);
        dueGoes("a record of that number stays", x, 3, 2, 12);
        due("the moved ones go on", x.change(1, 50), 3);
    }

    private static void promise4ChangeWhereAFieldHadBoth() {
        LinkKeeper x = withRecords(4);
        linkAll("both", x, new int[][] {
            {1, 4, 10}, {1, 4, 12}, {1, 4, 20}, {2, 4, 20}, {2, 4, 12}, {2, 4, 10},
            {3, 4, 10}, {3, 5, 20}, {4, 4, 20}, {4, 5, 10}, {4, 5, 20}, {4, 4, 10}});
        due("links that went to the first, gone ones too", x.change(10, 20), 5);
        dueGoes("the first was earlier", x, 1, 4, 20, 12);
        dueGoes("the first was later", x, 2, 4, 20, 12);
        dueGoes("other fields are no matter", x, 3, 4, 20);
        dueGoes("other fields are no matter", x, 3, 5, 20);
        dueGoes("two fields of one record", x, 4, 4, 20);
        dueGoes("two fields of one record", x, 4, 5, 20);
        due("each field has one", x.change(20, 30), 6);
        linkAll("room again", x, new int[][] {{1, 4, 1}, {2, 4, 1}});
        due("full again", x.link(1, 4, 2), 0);
        dueGoes("at the end", x, 2, 4, 30, 12, 1);
    }

    private static void promise4ChangeToAndFro() {
        LinkKeeper x = withRecords(1);
        linkAll("to and fro", x, new int[][] {{1, 4, 10}, {1, 4, 20}});
        due("the later one is gone", x.change(20, 10), 1);
        due("only one goes on", x.change(10, 30), 1);
        due("and back: the gone one is no matter", x.change(30, 10), 1);
        dueGoes("to and fro", x, 1, 4, 10);
    }

    private static void promise4ChangeRefused() {
        LinkKeeper x = withRecords(1);
        linkAll("refused", x, new int[][] {{1, 4, 1}, {1, 4, 99}});
        due("the same", x.change(1, 1), 0);
        due("to 0", x.change(1, 0), 0);
        due("to 100", x.change(99, 100), 0);
        due("from 0", x.change(0, 1), 0);
        due("from 100", x.change(100, 1), 0);
        for (int far : FAR) {
            due("to far", x.change(1, far), 0);
            due("from far", x.change(far, 1), 0);
        }
        dueGoes("nothing happened", x, 1, 4, 1, 99);
        due("a link", x.link(1, 5, 1), 1);
        dueTimes("each was a moment", x, 1, 1, 2, 16);
    }

    private static void promise5Broken() {
        LinkKeeper x = withRecords(6);
        linkAll("broken", x, new int[][] {
            {3, 1, 5}, {2, 3, 6}, {1, 2, 5}, {1, 2, 4}, {1, 4, 5}, {4, 2, 6}, {5, 2, 6}});
        due("none yet", x.broken(0, 0), -1);
        due("delete", x.delete(6), 1);
        dueBroken("one deleted", x, 0, 2, 3, 6);
        dueBroken("one deleted", x, 1, 4, 2, 6);
        dueBroken("one deleted", x, 2, 5, 2, 6);
        dueBroken("one deleted", x, 3, -1, -1, -1);
        due("delete", x.delete(5), 1);
        dueBroken("in the order made", x, 0, 3, 1, 5);
        dueBroken("in the order made", x, 1, 2, 3, 6);
        dueBroken("in the order made", x, 2, 1, 2, 5);
        dueBroken("the deleted one's link is gone", x, 3, 4, 2, 6);
        dueBroken("a heading is no record", x, 4, -1, -1, -1);
        due("what 3", x.broken(0, 3), -1);
        for (int far : FAR) {
            due("what far", x.broken(0, far), -1);
            for (int what = 0; what <= 2; what++) {
                due("i far", x.broken(far, what), -1);
            }
        }
        dueGoes("a broken link still goes there", x, 1, 2, 5, 4);
        due("a broken link is that very link no more", x.link(1, 2, 5), 0);
    }

    private static void promise6RepairGoesToHost() {
        LinkKeeper x = withRecords(6);
        linkAll("repair", x, new int[][] {{2, 0, 1}, {3, 0, 2}, {4, 2, 3}, {4, 2, 5}, {5, 1, 3}, {6, 2, 3}});
        due("delete", x.delete(3), 1);
        due("the second", x.repair(1), 1);
        dueGoes("the second", x, 5, 1, 2);
        dueGoes("the first is as it was", x, 4, 2, 3, 5);
        dueBroken("the first", x, 0, 4, 2, 3);
        dueBroken("the third comes next", x, 1, 6, 2, 3);
        due("the first", x.repair(0), 1);
        dueGoes("keeps its place", x, 4, 2, 2, 5);
        due("the host is deleted", x.delete(2), 1);
        dueBroken("keeps its place among all", x, 0, 4, 2, 2);
        dueBroken("keeps its place among all", x, 1, 5, 1, 2);
        dueBroken("keeps its place among all", x, 2, 6, 2, 3);
        due("broken again, to the next host", x.repair(0), 1);
        dueGoes("broken again", x, 4, 2, 1, 5);
        due("not to the host's host", x.repair(1), 0);
        dueGoes("taken away", x, 6, 2);
        dueTimes("repairs are changes", x, 4, 3, 4, 9, 11);
        dueTimes("taking away is one", x, 6, 6, 12);
        dueTimes("not of the host", x, 1);
    }

    private static void promise6RepairTakesAway() {
        LinkKeeper x = withRecords(6);
        linkAll("repair", x, new int[][] {{2, 0, 1}, {1, 1, 2}, {3, 2, 2}, {3, 2, 1}, {4, 3, 5}, {4, 3, 6}, {3, 3, 2}});
        due("delete one with a host", x.delete(2), 1);
        due("delete one without", x.delete(5), 1);
        due("to the record itself", x.repair(0), 0);
        dueGoes("to the record itself", x, 1, 1);
        due("that very link is there", x.repair(0), 0);
        dueGoes("that very link is there", x, 3, 2, 1);
        due("no host", x.repair(0), 0);
        dueGoes("no host", x, 4, 3, 6);
        due("another field may have it too", x.repair(0), 1);
        dueGoes("another field may have it too", x, 3, 3, 1);
        due("none is left", x.repair(0), -1);
    }

    private static void promise6RepairOfAFullField() {
        LinkKeeper x = withRecords(10);
        linkAll("full", x, new int[][] {
            {2, 0, 1}, {3, 1, 2}, {3, 1, 4}, {3, 2, 4}, {3, 2, 5}, {3, 2, 6}, {3, 2, 7}, {3, 2, 2}});
        due("delete", x.delete(2), 1);
        due("full with a broken one", x.link(3, 2, 8), 0);
        due("in its place, of two", x.repair(0), 1);
        due("in its place, of five", x.repair(0), 1);
        dueGoes("of two", x, 3, 1, 1, 4);
        dueGoes("of five", x, 3, 2, 4, 5, 6, 7, 1);
    }

    private static void promise6RepairWithAllLinksMade() {
        LinkKeeper x = withAllLinks();
        due("room for 12", x.delete(8), 1);
        linkAll("room for 12", x, new int[][] {{15, 0, 16}, {17, 3, 15}, {18, 2, 15}});
        due("its host link goes with it", x.delete(15), 1);
        for (int n = 0; n < 10; n++) {
            linkAll("room for 10", x, new int[][] {{19, 4 + n / 3, 1 + n}});
        }
        due("there are 200", x.link(20, 4, 1), 0);
        due("repair with 200", x.repair(0), 1);
        dueGoes("repair with 200", x, 17, 3, 16);
        due("repair with 200", x.repair(0), 1);
        dueGoes("repair with 200", x, 18, 2, 16);
        due("still 200", x.link(20, 4, 1), 0);
    }

    private static void promise6RepairOfNone() {
        LinkKeeper x = withRecords(3);
        linkAll("none", x, new int[][] {{1, 2, 2}});
        due("none is broken", x.repair(0), -1);
        due("delete", x.delete(2), 1);
        due("past the end", x.repair(1), -1);
        for (int far : FAR) {
            due("far", x.repair(far), -1);
        }
        dueGoes("nothing happened", x, 1, 2, 2);
        due("the one", x.repair(0), 0);
        dueTimes("each was a moment", x, 1, 1, 9);
    }

    private static void promise7Chain() {
        LinkKeeper x = withRecords(5);
        linkAll("chain", x, new int[][] {{1, 0, 3}, {3, 0, 2}, {2, 0, 5}, {4, 1, 5}});
        int[] outwards = {3, 2, 5, 0, 0};
        for (int i = 0; i < outwards.length; i++) {
            due("chain(1, " + i + ")", x.chain(1, i), outwards[i]);
        }
        due("from the middle", x.chain(2, 0), 5);
        due("of the outermost", x.chain(5, 0), 0);
        due("series are no hosts", x.chain(4, 0), 0);
        due("no record 0", x.chain(0, 0), 0);
        due("no record 6", x.chain(6, 0), 0);
        for (int far : FAR) {
            due("i far", x.chain(1, far), 0);
            due("record far", x.chain(far, 0), 0);
        }
        due("delete", x.delete(1), 1);
        due("deleted", x.chain(1, 0), 0);
        due("deleted", x.chain(1, 1), 0);
        due("the others lie as before", x.chain(3, 1), 5);
    }

    private static void promise7LongestChain() {
        LinkKeeper x = withRecords(60);
        for (int r = 1; r < 60; r++) {
            due("longest: link", x.link(r, 0, r + 1), 1);
        }
        for (int i = 0; i < 59; i++) {
            due("longest: chain", x.chain(1, i), i + 2);
        }
        due("longest: past the end", x.chain(1, 59), 0);
        due("longest: past the end", x.chain(1, 60), 0);
        due("longest: past the end", x.chain(1, 61), 0);
        due("longest: ring", x.link(60, 0, 1), 0);
        for (int i = 0; i < 60; i++) {
            due("longest: ring(" + i + ")", x.ring(i), i + 1);
        }
        due("longest: ring past the end", x.ring(60), 0);
        due("longest: move", x.move(60, 9), 60);
        due("longest: house", x.house(1), 9);
        due("longest: delete the outermost", x.delete(60), -1);
    }

    private static void promise8Ring() {
        LinkKeeper x = withRecords(6);
        linkAll("ring", x, new int[][] {{2, 0, 4}, {4, 0, 1}, {1, 0, 6}});
        dueRing("none yet", x);
        due("refused", x.link(6, 0, 2), 0);
        dueRing("the whole way", x, 2, 4, 1, 6);
        for (int far : FAR) {
            due("i far", x.ring(far), 0);
        }
        due("refused", x.link(6, 0, 1), 0);
        dueRing("the latest, shorter", x, 1, 6);
        linkAll("ring", x, new int[][] {{6, 0, 5}});
        due("refused", x.link(5, 0, 4), 0);
        dueRing("the latest, longer", x, 4, 1, 6, 5);
    }

    private static void promise8RingStays() {
        LinkKeeper x = withRecords(5);
        linkAll("stays", x, new int[][] {{1, 0, 2}, {2, 0, 3}});
        due("refused", x.link(3, 0, 1), 0);
        dueRing("told", x, 1, 2, 3);
        due("refused as the same", x.link(4, 0, 4), 0);
        due("refused as not there", x.link(4, 0, 6), 0);
        due("refused as full", x.link(1, 0, 4), 0);
        due("refused as full before the way is looked at", x.link(2, 0, 1), 0);
        due("refused, of another field", x.link(3, 1, 3), 0);
        linkAll("stays", x, new int[][] {{3, 1, 1}, {3, 0, 4}});
        dueRing("stays past other refusals and links", x, 1, 2, 3);
        due("delete", x.delete(1), 1);
        due("delete", x.delete(2), 1);
        dueRing("stays past deletions", x, 1, 2, 3);
    }

    private static void promise9Host() {
        LinkKeeper x = withRecords(4);
        linkAll("host", x, new int[][] {{1, 0, 2}, {2, 0, 3}, {4, 1, 3}, {4, 4, 3}});
        due("host", x.host(1), 2);
        due("host of a host", x.host(2), 3);
        due("no host", x.host(3), 0);
        due("other fields are no hosts", x.host(4), 0);
        due("no record 0", x.host(0), 0);
        due("no record 5", x.host(5), 0);
        due("no record 61", x.host(61), 0);
        for (int far : FAR) {
            due("far", x.host(far), 0);
        }
        due("delete", x.delete(1), 1);
        due("deleted", x.host(1), 0);
    }

    private static void promise10Move() {
        LinkKeeper x = withRecords(8);
        linkAll("move", x, new int[][] {{1, 0, 2}, {2, 0, 3}, {4, 0, 3}, {3, 0, 5}, {6, 1, 3}, {7, 0, 5}, {8, 0, 3}});
        due("delete", x.delete(8), 1);
        due("one with its parts", x.move(3, 4), 4);
        int[] houses = {4, 4, 4, 4, 0, 0, 0, 0};
        for (int r = 1; r <= 8; r++) {
            due("house(" + r + ")", x.house(r), houses[r - 1]);
        }
        due("again", x.move(3, 4), 0);
        due("a part by itself", x.move(2, 9), 2);
        due("only those that were elsewhere", x.move(3, 9), 2);
        due("the outermost", x.move(5, 0), 4);
        due("nowhere else", x.move(5, 0), 0);
        due("series do not go along", x.house(6), 0);
        due("a new part stays where it is", x.link(6, 0, 1), 1);
        due("a part of a part", x.move(3, 1), 5);
        dueTimes("a move is no change", x, 3, 4);
    }

    private static void promise10MoveRefused() {
        LinkKeeper x = withRecords(3);
        due("delete", x.delete(3), 1);
        due("house 10", x.move(1, 10), 0);
        due("house -1", x.move(1, -1), 0);
        due("record 0", x.move(0, 1), 0);
        due("record 4", x.move(4, 1), 0);
        due("deleted", x.move(3, 1), 0);
        for (int far : FAR) {
            due("house far", x.move(1, far), 0);
            due("record far", x.move(far, 1), 0);
        }
        for (int r = 1; r <= 3; r++) {
            due("nothing happened", x.house(r), 0);
        }
        due("house 9", x.move(1, 9), 1);
        due("house 0", x.move(1, 0), 1);
        due("a link", x.link(1, 4, 1), 1);
        dueTimes("each was a moment", x, 1, 17);
    }

    private static void promise11Delete() {
        LinkKeeper x = withRecords(5);
        linkAll("delete", x, new int[][] {{1, 0, 2}, {1, 1, 3}, {1, 4, 7}, {3, 2, 1}, {5, 2, 4}});
        due("delete", x.delete(1), 1);
        due("its links are gone", x.goes(1, 0, 0), 0);
        due("its links are gone", x.goes(1, 1, 0), 0);
        due("its links are gone", x.goes(1, 4, 0), 0);
        due("its heading is free", x.change(7, 8), 0);
        due("links to it are not", x.goes(3, 2, 0), 1);
        due("deleted already", x.delete(1), 0);
        due("its host is host no more", x.delete(2), 1);
        dueTimes("links went with it", x, 1, 1, 2, 3, 6);
        dueTimes("it had none", x, 2);
        dueTimes("a link that broke is no change", x, 3, 4);
        due("it is no part that goes along", x.move(2, 3), 0);
    }

    private static void promise11DeleteRefused() {
        LinkKeeper x = withRecords(7);
        linkAll("refused", x, new int[][] {{1, 0, 4}, {2, 0, 4}, {3, 0, 4}, {5, 0, 1}, {6, 1, 4}, {4, 4, 9}});
        due("three parts", x.delete(4), -3);
        due("one part", x.delete(1), -1);
        due("its links stay", x.goes(4, 4, 0), 9);
        due("it is live", x.link(7, 2, 4), 1);
        due("nothing is broken", x.broken(0, 0), -1);
        due("record 0", x.delete(0), 0);
        due("record 8", x.delete(8), 0);
        for (int far : FAR) {
            due("far", x.delete(far), 0);
        }
        due("a part", x.delete(2), 1);
        due("two parts are left", x.delete(4), -2);
        due("a link", x.link(4, 4, 10), 1);
        dueTimes("each was a moment", x, 4, 6, 18);
        linkAll("refused", x, new int[][] {{7, 0, 6}});
        due("the last record is a part", x.delete(6), -1);
    }

    private static void promise12Times() {
        LinkKeeper x = withRecords(3);
        due("link", x.link(1, 1, 2), 1);
        due("refused", x.link(1, 1, 2), 0);
        due("link", x.link(1, 1, 3), 1);
        x.host(1);
        x.record();
        x.broken(0, 0);
        x.orphan(0);
        due("link", x.link(1, 4, 3), 1);
        dueTimes("other calls are no moments", x, 1, 1, 3, 4);
        due("no record 0", x.times(0, 0), 0);
        due("no record 5", x.times(5, 0), 0);
        for (int far : FAR) {
            due("i far", x.times(1, far), 0);
            due("record far", x.times(far, 0), 0);
        }
    }

    private static void promise12TimesOfEachKindOfCall() {
        LinkKeeper x = withRecords(4);
        linkAll("kinds", x, new int[][] {{1, 4, 5}, {1, 2, 3}, {3, 0, 2}, {1, 3, 4}});
        due("change", x.change(5, 6), 1);
        due("change of none", x.change(5, 6), 0);
        due("move", x.move(1, 2), 1);
        due("delete", x.delete(3), 1);
        due("repair", x.repair(0), 1);
        due("delete", x.delete(4), 1);
        due("repair takes away", x.repair(0), 0);
        due("repair of none", x.repair(0), -1);
        due("delete", x.delete(1), 1);
        dueTimes("of each kind", x, 1, 1, 2, 4, 5, 9, 11, 13);
        dueTimes("of one with a host", x, 3, 3, 8);
        dueTimes("of one that had none", x, 4);
    }

    private static void promise12TimesOncePerCall() {
        LinkKeeper x = withRecords(2);
        linkAll("once", x, new int[][] {{1, 4, 5}, {1, 5, 5}, {1, 6, 5}, {1, 6, 7}, {2, 4, 5}, {2, 5, 7}});
        due("change of four", x.change(5, 7), 4);
        dueTimes("one change of each", x, 1, 1, 2, 3, 4, 7);
        dueTimes("one change of each", x, 2, 5, 6, 7);
        due("delete with three links", x.delete(1), 1);
        dueTimes("one change", x, 1, 1, 2, 3, 4, 7, 8);
    }

    private static void promise12FirstForty() {
        LinkKeeper x = withRecords(3);
        due("link", x.link(2, 4, 1), 1);
        due("link", x.link(3, 4, 99), 1);
        for (int n = 0; n < 50; n++) {
            due("change to and fro", x.change(n % 2 == 0 ? 1 : 2, n % 2 == 0 ? 2 : 1), 1);
        }
        due("the first", x.times(2, 0), 1);
        for (int i = 1; i < 40; i++) {
            due("times(2, " + i + ")", x.times(2, i), i + 2);
        }
        due("past forty", x.times(2, 40), 0);
        due("past forty", x.times(2, 41), 0);
        dueTimes("the next record is not met", x, 3, 2);
        dueTimes("the one before is not met", x, 1);
    }

    private static void promise13Orphan() {
        LinkKeeper x = withRecords(7);
        for (int i = 0; i < 7; i++) {
            due("all", x.orphan(i), i + 1);
        }
        due("past the end", x.orphan(7), 0);
        linkAll("orphan", x, new int[][] {{6, 2, 3}, {1, 4, 7}});
        int[] left = {2, 4, 5, 7, 0};
        for (int i = 0; i < left.length; i++) {
            due("a heading of that number is no matter: orphan(" + i + ")", x.orphan(i), left[i]);
        }
        for (int far : FAR) {
            due("far", x.orphan(far), 0);
        }
        due("a deleted one is none", x.delete(2), 1);
        due("a deleted one is none", x.orphan(0), 4);
        due("delete", x.delete(3), 1);
        due("one with a broken link is none", x.orphan(2), 7);
        due("repair", x.repair(0), 0);
        due("its link was taken away", x.orphan(2), 6);
        linkAll("orphan", x, new int[][] {{4, 0, 5}});
        due("neither host nor part", x.orphan(0), 6);
        due("delete", x.delete(4), 1);
        due("the link went with its record", x.orphan(0), 5);
        for (int field = 4; field <= 9; field++) {
            linkAll("orphan", x, new int[][] {{1, field, 5}});
            due("a heading of that number, field " + field, x.orphan(0), 5);
        }
        for (int field = 0; field <= 3; field++) {
            LinkKeeper y = withRecords(2);
            linkAll("orphan", y, new int[][] {{1, field, 2}});
            due("no orphan by field " + field, y.orphan(0), 0);
        }
    }

    private static void promise14House() {
        LinkKeeper x = withRecords(3);
        due("at first", x.house(2), 0);
        due("move", x.move(2, 7), 1);
        due("moved", x.house(2), 7);
        due("another one", x.house(1), 0);
        due("delete", x.delete(2), 1);
        due("its last one", x.house(2), 7);
        due("move", x.move(2, 8), 0);
        due("its last one", x.house(2), 7);
        due("no record 0", x.house(0), -1);
        due("no record 4", x.house(4), -1);
        due("a new record", x.record(), 4);
        due("a new record", x.house(4), 0);
        for (int far : FAR) {
            due("far", x.house(far), -1);
        }
    }

    private static void promise15Goes() {
        LinkKeeper x = withRecords(6);
        linkAll("goes", x, new int[][] {{1, 2, 6}, {1, 3, 5}, {2, 2, 3}, {1, 2, 4}, {1, 2, 5}, {1, 9, 99}, {1, 9, 1}});
        dueGoes("in the order made", x, 1, 2, 6, 4, 5);
        dueGoes("another field", x, 1, 3, 5);
        dueGoes("another record", x, 2, 2, 3);
        dueGoes("headings", x, 1, 9, 99, 1);
        dueGoes("an empty field", x, 1, 0);
        dueGoes("no field 10", x, 1, 10);
        dueGoes("no record 0", x, 0, 2);
        dueGoes("no record 7", x, 7, 2);
        for (int far : FAR) {
            due("record far", x.goes(far, 2, 0), 0);
            due("field far", x.goes(1, far, 0), 0);
            due("i far", x.goes(1, 2, far), 0);
        }
        due("delete", x.delete(4), 1);
        dueGoes("a broken one too", x, 1, 2, 6, 4, 5);
        due("repair", x.repair(0), 0);
        dueGoes("without the one taken away", x, 1, 2, 6, 5);
        due("delete", x.delete(1), 1);
        dueGoes("of a deleted one", x, 1, 2);
    }
}
