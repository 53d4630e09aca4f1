import java.util.ArrayList;
import java.util.List;

/**
 * A run of calls, each with the answer that is due, that can be made again on a new object at will.
 * So a scene can be asked for far more than one object's 512 calls.
 */
final class Scene {
    private static final int MOST_CALLS = 512;

    private final List<Call> calls;
    private final Call clock;
    private final int clockRecord;

    private Scene(List<Call> calls, Call clock, int clockRecord) {
        this.calls = calls;
        this.clock = clock;
        this.clockRecord = clockRecord;
    }

    static Scene empty() {
        return new Scene(List.of(), null, 0);
    }

    static Scene records(int count) {
        List<Call> calls = new ArrayList<>();
        for (int r = 1; r <= count; r++) {
            calls.add(new Call(r, "record"));
        }
        return new Scene(calls, null, 0).clock("link(" + count + ", 9, 99) = 1", count);
    }

    /** The call that is a CHANGE of the record, so that times() tells which MOMENT it was. */
    Scene clock(String call, int record) {
        return new Scene(calls, Call.read(call).get(0), record);
    }

    Scene then(String text) {
        return then(Call.read(text));
    }

    Scene then(List<Call> more) {
        List<Call> all = new ArrayList<>(calls);
        all.addAll(more);
        if (all.size() > MOST_CALLS) {
            throw new IllegalStateException("a scene of " + all.size() + " calls");
        }
        return new Scene(all, clock, clockRecord);
    }

    int size() {
        return calls.size();
    }

    LinkKeeper play() {
        LinkKeeper x = new LinkKeeper();
        for (int k = 0; k < calls.size(); k++) {
            Call call = calls.get(k);
            int got = call.on(x);
            if (got != call.due) {
                Boundary.wrong("call " + k + ", " + call + ", answered " + got + ", due is " + call.due);
            }
        }
        return x;
    }

    /** How many MOMENTS there were, as a CHANGE that comes next shows it. */
    int moments() {
        if (clock == null) {
            throw new IllegalStateException("a scene without a clock");
        }
        LinkKeeper x = then(List.of(clock)).play();
        int latest = 0;
        for (int i = 0; i < 40 && x.times(clockRecord, i) != 0; i++) {
            latest = x.times(clockRecord, i);
        }
        return latest - 1;
    }

    boolean hasClock() {
        return clock != null;
    }

    /** The answers of calls that change nothing: many of them share an object. */
    int[] answers(List<Call> readers) {
        int[] got = new int[readers.size()];
        LinkKeeper x = null;
        int left = 0;
        for (int k = 0; k < got.length; k++) {
            if (left == 0) {
                x = play();
                left = MOST_CALLS - calls.size();
            }
            got[k] = readers.get(k).on(x);
            left--;
        }
        return got;
    }

    /** The answers of calls that do something: each has an object of its own. */
    int[] outcomes(List<Call> doers) {
        int[] got = new int[doers.size()];
        for (int k = 0; k < got.length; k++) {
            got[k] = doers.get(k).on(play());
        }
        return got;
    }

    /** All that can be asked, of the records that are there and of one on each side. */
    List<Call> readers() {
        int records = count("record");
        int links = count("link");
        List<Call> all = new ArrayList<>();
        for (int r = 0; r <= records + 1; r++) {
            all.add(new Call(0, "house", r));
            all.add(new Call(0, "host", r));
            for (int i = 0; i <= records; i++) {
                all.add(new Call(0, "chain", r, i));
            }
            for (int i = 0; i <= 40; i++) {
                all.add(new Call(0, "times", r, i));
            }
            for (int field = 0; field <= 9; field++) {
                for (int i = 0; i <= 5; i++) {
                    all.add(new Call(0, "goes", r, field, i));
                }
            }
        }
        for (int i = 0; i <= records; i++) {
            all.add(new Call(0, "orphan", i));
            all.add(new Call(0, "ring", i));
        }
        for (int i = 0; i <= links; i++) {
            for (int what = 0; what <= 2; what++) {
                all.add(new Call(0, "broken", i, what));
            }
        }
        return all;
    }

    /** What shows by doing alone: the next number, the room for links, the hosts of deleted records. */
    List<Call> doers() {
        int records = count("record");
        List<Call> all = new ArrayList<>();
        all.add(new Call(0, "record"));
        for (int r = 1; r <= records; r++) {
            all.add(new Call(0, "delete", r));
            all.add(new Call(0, "move", r, 0));
            all.add(new Call(0, "move", r, 9));
        }
        for (int heading = 1; heading <= 99; heading++) {
            all.add(new Call(0, "change", heading, heading % 99 + 1));
        }
        for (int i = 0; i < 5; i++) {
            all.add(new Call(0, "repair", i));
        }
        for (int from = 1; from <= Math.min(records, 9); from++) {
            for (int field = 0; field <= 9; field++) {
                for (int to = 1; to <= Math.min(records, 9); to++) {
                    all.add(new Call(0, "link", from, field, to));
                }
            }
        }
        return all;
    }

    private int count(String name) {
        int found = 0;
        for (Call call : calls) {
            if (call.name.equals(name) && call.due > 0) {
                found++;
            }
        }
        return found;
    }
}
