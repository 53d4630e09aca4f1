/**
 * Links between records, and from records to headings: how many a field may have, hosts without
 * rings, broken links and how they are repaired, moves of hosts with their parts, orphans.
 */
public final class LinkKeeper {
    public static final int NONE = -1;

    private static final int MOST_RECORDS = 60;
    private static final int LAST_HOUSE = 9;
    private static final int LAST_HEADING = 99;
    private static final int MOST_LINKS = 200;
    private static final int MOST_CHANGES = 40;

    private static final int HOST_FIELD = 0;
    private static final int FIRST_HEADING_FIELD = 4;
    private static final int LAST_FIELD = 9;
    private static final int[] MOST_OF_FIELD = {1, 2, 5, 5, 3, 3, 3, 3, 3, 3};

    // Rows by record number; place 0 stays empty, so that 0 can mean 'no record' in them.
    private final boolean[] live = new boolean[MOST_RECORDS + 1];
    private final int[] houses = new int[MOST_RECORDS + 1];
    // A deleted record's host stays in its place, because repair asks for it. No live record's way
    // outwards meets a deleted one, because delete refuses hosts.
    private final int[] hosts = new int[MOST_RECORDS + 1];
    private final int[] changeCounts = new int[MOST_RECORDS + 1];
    private final int[] changeMoments = new int[(MOST_RECORDS + 1) * MOST_CHANGES];
    private int records = 0;

    // The links, without gaps, in the order in which they were made.
    private final int[] linkFrom = new int[MOST_LINKS];
    private final int[] linkField = new int[MOST_LINKS];
    private final int[] linkTo = new int[MOST_LINKS];
    private int links = 0;

    // The way is kept as it was at the refusal: what happens to its records later leaves it alone.
    private final int[] refusedWay = new int[MOST_RECORDS];
    private int refusedWayLength = 0;

    private int moment = 0;

    public LinkKeeper() {
    }

    public int record() {
        if (records >= MOST_RECORDS) {
            return 0;
        }
        records++;
        live[records] = true;
        return records;
    }

    public int link(int from, int field, int to) {
        moment++;
        if (!hasRoomFor(from, field, to, NONE)) {
            return 0;
        }
        if (field == HOST_FIELD && liesIn(to, from)) {
            keepRefusedWay(to, from);
            return 0;
        }
        addLink(from, field, to);
        noteChange(from);
        return 1;
    }

    public int change(int heading, int to) {
        moment++;
        if (!isHeading(heading) || !isHeading(to) || heading == to) {
            return 0;
        }
        int went = 0;
        // From the last link down, so that taking one away shifts only links already looked at.
        for (int at = links - 1; at >= 0; at--) {
            if (linkField[at] >= FIRST_HEADING_FIELD && linkTo[at] == heading) {
                went++;
                noteChange(linkFrom[at]);
                sendToHeading(at, to);
            }
        }
        return went;
    }

    public int broken(int i, int what) {
        int at = findBroken(i);
        if (at == NONE) {
            return NONE;
        }
        switch (what) {
            case 0:
                return linkFrom[at];
            case 1:
                return linkField[at];
            case 2:
                return linkTo[at];
            default:
                return NONE;
        }
    }

    public int repair(int i) {
        moment++;
        int at = findBroken(i);
        if (at == NONE) {
            return NONE;
        }
        noteChange(linkFrom[at]);
        int heir = hosts[linkTo[at]];
        // The way is not asked for: a link of field 0 is never broken, because delete refuses hosts.
        if (hasRoomFor(linkFrom[at], linkField[at], heir, at)) {
            linkTo[at] = heir;
            return 1;
        }
        removeLink(at);
        return 0;
    }

    public int chain(int record, int i) {
        if (!isLive(record) || i < 0 || i >= MOST_RECORDS) {
            return 0;
        }
        int outer = hosts[record];
        for (int step = 0; step < i; step++) {
            outer = hosts[outer];
        }
        return outer;
    }

    public int ring(int i) {
        return i >= 0 && i < refusedWayLength ? refusedWay[i] : 0;
    }

    public int host(int record) {
        return isLive(record) ? hosts[record] : 0;
    }

    public int move(int record, int house) {
        moment++;
        if (!isLive(record) || house < 0 || house > LAST_HOUSE) {
            return 0;
        }
        int moved = 0;
        for (int part = 1; part <= records; part++) {
            boolean goesAlong = part == record || live[part] && liesIn(part, record);
            if (goesAlong && houses[part] != house) {
                houses[part] = house;
                moved++;
            }
        }
        return moved;
    }

    public int delete(int record) {
        moment++;
        if (!isLive(record)) {
            return 0;
        }
        int parts = countHostedBy(record);
        if (parts > 0) {
            return -parts;
        }
        live[record] = false;
        removeLinksOf(record);
        return 1;
    }

    public int times(int record, int i) {
        if (!isRecord(record) || i < 0 || i >= changeCounts[record]) {
            return 0;
        }
        return changeMoments[record * MOST_CHANGES + i];
    }

    public int orphan(int i) {
        if (i < 0) {
            return 0;
        }
        int before = 0;
        for (int record = 1; record <= records; record++) {
            if (live[record] && !isLinked(record)) {
                if (before == i) {
                    return record;
                }
                before++;
            }
        }
        return 0;
    }

    public int house(int record) {
        return isRecord(record) ? houses[record] : NONE;
    }

    public int goes(int record, int field, int i) {
        if (i < 0) {
            return 0;
        }
        int before = 0;
        for (int at = 0; at < links; at++) {
            if (linkFrom[at] == record && linkField[at] == field) {
                if (before == i) {
                    return linkTo[at];
                }
                before++;
            }
        }
        return 0;
    }

    private boolean isRecord(int number) {
        return number >= 1 && number <= records;
    }

    private boolean isLive(int number) {
        return isRecord(number) && live[number];
    }

    private static boolean isHeading(int number) {
        return number >= 1 && number <= LAST_HEADING;
    }

    /** All that link() asks for but the way; the link at the place 'without' is not counted. */
    private boolean hasRoomFor(int from, int field, int to, int without) {
        if (!isLive(from) || field < 0 || field > LAST_FIELD || !mayGoTo(from, field, to)) {
            return false;
        }
        int ofField = 0;
        int ofAll = 0;
        for (int at = 0; at < links; at++) {
            if (at == without) {
                continue;
            }
            ofAll++;
            if (linkFrom[at] == from && linkField[at] == field) {
                ofField++;
                if (linkTo[at] == to) {
                    return false;
                }
            }
        }
        return ofField < MOST_OF_FIELD[field] && ofAll < MOST_LINKS;
    }

    private boolean mayGoTo(int from, int field, int to) {
        if (field >= FIRST_HEADING_FIELD) {
            return isHeading(to);
        }
        return isLive(to) && to != from;
    }

    private boolean liesIn(int inner, int outer) {
        int at = hosts[inner];
        for (int step = 0; step < MOST_RECORDS && at != 0; step++) {
            if (at == outer) {
                return true;
            }
            at = hosts[at];
        }
        return false;
    }

    private void keepRefusedWay(int inner, int outer) {
        refusedWayLength = 0;
        int at = inner;
        while (refusedWayLength < MOST_RECORDS && at != 0) {
            refusedWay[refusedWayLength] = at;
            refusedWayLength++;
            at = at == outer ? 0 : hosts[at];
        }
    }

    private void addLink(int from, int field, int to) {
        linkFrom[links] = from;
        linkField[links] = field;
        linkTo[links] = to;
        links++;
        if (field == HOST_FIELD) {
            hosts[from] = to;
        }
    }

    private void removeLink(int at) {
        int behind = links - at - 1;
        System.arraycopy(linkFrom, at + 1, linkFrom, at, behind);
        System.arraycopy(linkField, at + 1, linkField, at, behind);
        System.arraycopy(linkTo, at + 1, linkTo, at, behind);
        links--;
    }

    private void removeLinksOf(int record) {
        // From the last link down, so that taking one away shifts only links already looked at.
        for (int at = links - 1; at >= 0; at--) {
            if (linkFrom[at] == record) {
                noteChange(record);
                removeLink(at);
            }
        }
    }

    /** The earlier one of two links of a field to the same heading keeps its place. */
    private void sendToHeading(int at, int heading) {
        int twin = findLink(linkFrom[at], linkField[at], heading);
        linkTo[at] = heading;
        if (twin != NONE) {
            removeLink(Math.max(at, twin));
        }
    }

    private int findLink(int from, int field, int to) {
        for (int at = 0; at < links; at++) {
            if (linkFrom[at] == from && linkField[at] == field && linkTo[at] == to) {
                return at;
            }
        }
        return NONE;
    }

    private int findBroken(int i) {
        if (i < 0) {
            return NONE;
        }
        int before = 0;
        for (int at = 0; at < links; at++) {
            if (linkField[at] < FIRST_HEADING_FIELD && !live[linkTo[at]]) {
                if (before == i) {
                    return at;
                }
                before++;
            }
        }
        return NONE;
    }

    private int countHostedBy(int record) {
        int parts = 0;
        for (int part = 1; part <= records; part++) {
            if (live[part] && hosts[part] == record) {
                parts++;
            }
        }
        return parts;
    }

    private boolean isLinked(int record) {
        for (int at = 0; at < links; at++) {
            boolean goesToIt = linkField[at] < FIRST_HEADING_FIELD && linkTo[at] == record;
            if (goesToIt || linkFrom[at] == record) {
                return true;
            }
        }
        return false;
    }

    private void noteChange(int record) {
        int count = changeCounts[record];
        if (count >= MOST_CHANGES) {
            return;
        }
        int next = record * MOST_CHANGES + count;
        // One call is one change of a record, however many of its links it meets.
        if (count > 0 && changeMoments[next - 1] == moment) {
            return;
        }
        changeMoments[next] = moment;
        changeCounts[record] = count + 1;
    }
}
