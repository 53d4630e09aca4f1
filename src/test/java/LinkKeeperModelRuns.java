import java.util.ArrayList;
import java.util.HashMap;
import java.util.HashSet;
import java.util.List;
import java.util.Map;
import java.util.Random;
import java.util.Set;
import java.util.TreeMap;

/**
 * Runs of 512 calls against a second telling of the document, which keeps nothing but the links and
 * works every answer out of them. The seeds are fixed, so every run is the same each time.
 */
public final class LinkKeeperModelRuns {
    private static final int RUNS = 3000;
    private static final int CALLS = 512;

    private static final class Link {
        final int from;
        final int field;
        int to;

        Link(int from, int field, int to) {
            this.from = from;
            this.field = field;
            this.to = to;
        }

        boolean is(int f, int fd, int t) {
            return from == f && field == fd && to == t;
        }
    }

    private static final class Model {
        final Map<Integer, Integer> houses = new TreeMap<>();
        final Set<Integer> deleted = new HashSet<>();
        final Map<Integer, Integer> lastHosts = new HashMap<>();
        final Map<Integer, List<Integer>> changes = new HashMap<>();
        List<Link> links = new ArrayList<>();
        List<Integer> ring = new ArrayList<>();
        int moment = 0;

        boolean live(int r) {
            return houses.containsKey(r) && !deleted.contains(r);
        }

        int record() {
            if (houses.size() == 60) {
                return 0;
            }
            int r = houses.size() + 1;
            houses.put(r, 0);
            changes.put(r, new ArrayList<>());
            return r;
        }

        List<Integer> goesTo(int r, int field) {
            List<Integer> to = new ArrayList<>();
            for (Link l : links) {
                if (l.from == r && l.field == field) {
                    to.add(l.to);
                }
            }
            return to;
        }

        List<Integer> outwards(int r) {
            List<Integer> way = new ArrayList<>();
            List<Integer> next = goesTo(r, 0);
            while (!next.isEmpty()) {
                way.add(next.get(0));
                next = goesTo(next.get(0), 0);
            }
            return way;
        }

        boolean plainly(int from, int field, int to) {
            if (!live(from) || field < 0 || field > 9) {
                return false;
            }
            if (field <= 3 && (!live(to) || from == to) || field >= 4 && (to < 1 || to > 99)) {
                return false;
            }
            int most = field == 0 ? 1 : field == 1 ? 2 : field <= 3 ? 5 : 3;
            List<Integer> there = goesTo(from, field);
            return there.size() < most && !there.contains(to) && links.size() < 200;
        }

        void note(Set<Integer> records) {
            for (int r : records) {
                changes.get(r).add(moment);
            }
        }

        int link(int from, int field, int to) {
            moment++;
            if (!plainly(from, field, to)) {
                return 0;
            }
            List<Integer> way = outwards(to);
            if (field == 0 && way.contains(from)) {
                ring = new ArrayList<>();
                ring.add(to);
                ring.addAll(way.subList(0, way.indexOf(from) + 1));
                return 0;
            }
            links.add(new Link(from, field, to));
            note(Set.of(from));
            return 1;
        }

        int change(int heading, int to) {
            moment++;
            if (heading < 1 || heading > 99 || to < 1 || to > 99 || heading == to) {
                return 0;
            }
            int went = 0;
            Set<Integer> met = new HashSet<>();
            List<Link> kept = new ArrayList<>();
            for (Link l : links) {
                if (l.field >= 4 && l.to == heading) {
                    went++;
                    met.add(l.from);
                    l.to = to;
                }
                boolean twin = false;
                for (Link k : kept) {
                    twin |= k.is(l.from, l.field, l.to);
                }
                if (!twin) {
                    kept.add(l);
                }
            }
            links = kept;
            note(met);
            return went;
        }

        List<Link> brokenOnes() {
            List<Link> found = new ArrayList<>();
            for (Link l : links) {
                if (l.field <= 3 && deleted.contains(l.to)) {
                    found.add(l);
                }
            }
            return found;
        }

        int broken(int i, int what) {
            List<Link> all = brokenOnes();
            if (i < 0 || i >= all.size() || what < 0 || what > 2) {
                return -1;
            }
            Link l = all.get(i);
            return new int[] {l.from, l.field, l.to}[what];
        }

        int repair(int i) {
            moment++;
            List<Link> all = brokenOnes();
            if (i < 0 || i >= all.size()) {
                return -1;
            }
            Link l = all.get(i);
            int place = links.indexOf(l);
            links.remove(place);
            note(Set.of(l.from));
            int host = lastHosts.get(l.to);
            if (!plainly(l.from, l.field, host) || l.field == 0 && outwards(host).contains(l.from)) {
                return 0;
            }
            l.to = host;
            links.add(place, l);
            return 1;
        }

        int chain(int r, int i) {
            return live(r) ? at(outwards(r), i) : 0;
        }

        int host(int r) {
            return chain(r, 0);
        }

        int move(int r, int house) {
            moment++;
            if (!live(r) || house < 0 || house > 9) {
                return 0;
            }
            int moved = 0;
            for (int p : houses.keySet()) {
                if ((p == r || outwards(p).contains(r)) && houses.put(p, house) != house) {
                    moved++;
                }
            }
            return moved;
        }

        int delete(int r) {
            moment++;
            if (!live(r)) {
                return 0;
            }
            int parts = 0;
            for (int p : houses.keySet()) {
                parts += host(p) == r ? 1 : 0;
            }
            if (parts > 0) {
                return -parts;
            }
            lastHosts.put(r, host(r));
            deleted.add(r);
            if (links.removeIf(l -> l.from == r)) {
                note(Set.of(r));
            }
            return 1;
        }

        int times(int r, int i) {
            return houses.containsKey(r) && i < 40 ? at(changes.get(r), i) : 0;
        }

        int orphan(int i) {
            List<Integer> found = new ArrayList<>(houses.keySet());
            found.removeAll(deleted);
            for (Link l : links) {
                found.remove((Integer) l.from);
                if (l.field <= 3) {
                    found.remove((Integer) l.to);
                }
            }
            return at(found, i);
        }

        int house(int r) {
            return houses.getOrDefault(r, -1);
        }

        int goes(int r, int field, int i) {
            return at(goesTo(r, field), i);
        }

        static int at(List<Integer> list, int i) {
            return i >= 0 && i < list.size() ? list.get(i) : 0;
        }
    }

    private static final String[] NAMES = {"record", "link", "change", "broken", "repair", "chain",
        "ring", "host", "move", "delete", "times", "orphan", "house", "goes"};

    /** How often each call comes, in the order of NAMES, in the kinds of runs. */
    private static final int[][] SHARES = {
        {4, 30, 6, 6, 6, 5, 5, 5, 6, 6, 6, 5, 4, 6},
        {10, 70, 1, 1, 1, 2, 2, 1, 2, 1, 3, 1, 1, 4},
        {6, 40, 1, 5, 12, 2, 3, 2, 3, 15, 4, 4, 1, 2},
        {1, 20, 40, 1, 1, 1, 1, 1, 1, 1, 20, 2, 1, 9}};

    private final Random random;
    private final int[] shares;
    private final int most;
    private final int headings;
    private final boolean hostsMostly;
    private final LinkKeeper real = new LinkKeeper();
    private final Model model = new Model();
    private final StringBuilder told = new StringBuilder();
    private int a;
    private int b;
    private int c;

    private LinkKeeperModelRuns(int seed) {
        random = new Random(seed);
        shares = SHARES[seed % SHARES.length];
        most = new int[] {3, 6, 12, 60}[seed / SHARES.length % 4];
        headings = random.nextBoolean() ? 4 : 99;
        hostsMostly = random.nextInt(3) == 0;
    }

    private int pick(int from, int to) {
        if (random.nextInt(40) == 0) {
            int[] odd = {Integer.MIN_VALUE, -1, 0, 10, 60, 61, 99, 100, 200, Integer.MAX_VALUE};
            return odd[random.nextInt(odd.length)];
        }
        return from + random.nextInt(to - from + 1);
    }

    private int pickField() {
        return hostsMostly && random.nextInt(2) == 0 ? 0 : pick(0, 9);
    }

    private int pickCall() {
        int sum = 0;
        for (int s : shares) {
            sum += s;
        }
        int left = random.nextInt(sum);
        int call = 0;
        while (left >= shares[call]) {
            left -= shares[call];
            call++;
        }
        // A small world stays small, so that its few records meet one another often.
        return call == 0 && model.houses.size() >= most && most < 60 ? 1 : call;
    }

    private void pickArguments(String name) {
        a = name.equals("change") ? pick(1, headings) : pick(1, most);
        b = pick(0, 6);
        c = pick(0, 5);
        switch (name) {
            case "link":
                b = pickField();
                c = b >= 4 ? pick(1, headings) : pick(1, most);
                break;
            case "goes":
                b = pickField();
                break;
            case "change":
                b = pick(1, headings);
                break;
            case "broken":
                a = pick(0, 4);
                b = pick(0, 3);
                break;
            case "repair":
            case "ring":
            case "orphan":
                a = pick(0, 4);
                break;
            case "move":
                b = pick(0, 9);
                break;
            case "times":
                b = pick(0, 42);
                break;
            default:
                break;
        }
    }

    private int askReal(String name) {
        switch (name) {
            case "record": return real.record();
            case "link": return real.link(a, b, c);
            case "change": return real.change(a, b);
            case "broken": return real.broken(a, b);
            case "repair": return real.repair(a);
            case "chain": return real.chain(a, b);
            case "ring": return real.ring(a);
            case "host": return real.host(a);
            case "move": return real.move(a, b);
            case "delete": return real.delete(a);
            case "times": return real.times(a, b);
            case "orphan": return real.orphan(a);
            case "house": return real.house(a);
            default: return real.goes(a, b, c);
        }
    }

    private int askModel(String name) {
        switch (name) {
            case "record": return model.record();
            case "link": return model.link(a, b, c);
            case "change": return model.change(a, b);
            case "broken": return model.broken(a, b);
            case "repair": return model.repair(a);
            case "chain": return model.chain(a, b);
            case "ring": return Model.at(model.ring, a);
            case "host": return model.host(a);
            case "move": return model.move(a, b);
            case "delete": return model.delete(a);
            case "times": return model.times(a, b);
            case "orphan": return model.orphan(a);
            case "house": return model.house(a);
            default: return model.goes(a, b, c);
        }
    }

    private boolean same(String name) {
        int want = askModel(name);
        int got = askReal(name);
        told.append(name).append(' ').append(a).append(' ').append(b).append(' ').append(c)
            .append(" -> ").append(got).append('\n');
        if (got != want) {
            System.out.println(told + "the last call answered " + got + ", due is " + want);
            return false;
        }
        return true;
    }

    private boolean run() {
        for (int n = 0; n < CALLS; n++) {
            String name = n < 2 ? "record" : NAMES[pickCall()];
            pickArguments(name);
            if (!same(name)) {
                return false;
            }
        }
        return true;
    }

    public static void main(String[] args) {
        int wrong = 0;
        for (int seed = 0; seed < RUNS && wrong < 3; seed++) {
            if (!new LinkKeeperModelRuns(seed).run()) {
                System.out.println("in the run of seed " + seed);
                wrong++;
            }
        }
        System.out.println(wrong == 0 ? RUNS + " runs are as due" : "runs are not as due");
        if (wrong != 0) {
            System.exit(1);
        }
    }
}
