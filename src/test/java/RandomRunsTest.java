import java.math.BigInteger;
import java.util.ArrayDeque;
import java.util.ArrayList;
import java.util.HashMap;
import java.util.HashSet;
import java.util.List;
import java.util.Map;
import java.util.Random;
import java.util.Set;
import java.util.TreeMap;
import java.util.TreeSet;
import java.util.regex.Matcher;
import java.util.regex.Pattern;

/**
 * Runs of calls by draws, each answered by the class and by a slow and plain second telling of the
 * document with the Java library; ahead of and behind each refused call all that can be asked is the same.
 */
public final class RandomRunsTest {
    private static final int RUNS = 700, CALLS = 160;
    private static int wrong = 0;
    private static final Map<String, Integer> answered = new TreeMap<>();

    public static void main(String[] args) {
        for (int run = 0; run < RUNS && wrong < 20; run++) {
            oneRun(run);
        }
        for (String name : PlainTown.NAMES) {
            if (answered.getOrDefault(name, 0) < 20) {
                wrong++;
                System.out.println("too few answers of " + name + " that are no refusal");
            }
        }
        System.out.println(wrong == 0 ? "all random runs are as due" : wrong + " answers are not as due");
        if (wrong != 0) {
            System.exit(1);
        }
    }

    private static void oneRun(int run) {
        Random random = new Random(1000 + run);
        CoatDinner real = new CoatDinner();
        PlainTown plain = new PlainTown();
        StringBuilder story = new StringBuilder();
        if (run % 4 != 0) {
            for (int p = 0; p < 5; p++) {
                if (random.nextInt(5) != 0) {
                    both(real, plain, "person", new int[] {p}, story, run);
                }
            }
            for (int c = 0; c < 5; c++) {
                both(real, plain, "coat", new int[] {c, random.nextInt(16), random.nextInt(5)}, story, run);
                both(real, plain, "set", new int[] {c, 2, random.nextInt(2)}, story, run);
            }
        }
        for (int n = 0; n < CALLS && wrong < 20; n++) {
            String name = PlainTown.NAMES[random.nextInt(PlainTown.NAMES.length)];
            if (random.nextInt(12) == 0) {
                both(real, plain, "wipe", new int[0], story, run);
                for (int sign : drawFeast(random)) {
                    both(real, plain, "say", new int[] {sign}, story, run);
                }
                both(real, plain, "fault", new int[0], story, run);
                both(real, plain, "judge", new int[] {0}, story, run);
                both(real, plain, "judge", new int[] {1}, story, run);
                both(real, plain, "behind", new int[] {random.nextInt(5), random.nextInt(5)}, story, run);
                both(real, plain, "done", new int[0], story, run);
            }
            if (name.equals("leave") && random.nextInt(3) != 0) {
                continue;
            }
            both(real, plain, name, drawArguments(random, name), story, run);
        }
    }

    private static void both(CoatDinner real, PlainTown plain, String name, int[] a, StringBuilder story, int run) {
        String ahead = plain.changes(name) ? snapshot(real) : null;
        long want = plain.call(name, a);
        long got = callReal(real, name, a);
        story.append(' ').append(name).append(java.util.Arrays.toString(a)).append('=').append(want);
        if (got != want) {
            wrong++;
            System.out.println("run " + run + ": answered " + got + ", due is the last of:" + story);
        }
        boolean refused = want < 0 && want != -6;
        if (!refused) {
            answered.merge(name, 1, Integer::sum);
        } else if (ahead != null && !ahead.equals(snapshot(real))) {
            wrong++;
            System.out.println("run " + run + ": a refused call changed something, the last of:" + story);
        }
    }

    private static String snapshot(CoatDinner x) {
        StringBuilder all = new StringBuilder();
        for (int t = 0; t < 60; t++) {
            all.append(x.told(t)).append(',');
        }
        for (int p = 0; p < 5; p++) {
            all.append(x.told(100 * (1 + p))).append(',').append(x.told(100 * (1 + p) + 1)).append(',');
            for (int w = 0; w < 5; w++) {
                all.append(x.state(p, w)).append(',').append(x.behind(p, w)).append(',');
            }
        }
        return all.append(x.fault()).append(',').append(x.judge(0)).append(',').append(x.judge(1)).toString();
    }

    private static int[] drawFeast(Random random) {
        StringBuilder text = new StringBuilder();
        int events = random.nextInt(6);
        for (int e = 0; e < events; e++) {
            char person = (char) ('A' + random.nextInt(5));
            char coat = (char) ('a' + random.nextInt(5));
            switch (random.nextInt(8)) {
                case 0: text.append('*'); break;
                case 1: text.append(person).append('-'); break;
                case 2: case 3: text.append(person).append((char) ('A' + random.nextInt(5))).append(coat); break;
                case 4: case 5: text.append(person).append(coat); break;
                default: text.append('.');
            }
        }
        if (random.nextInt(12) == 0 && text.length() > 0) {
            text.setCharAt(random.nextInt(text.length()), (char) (33 + random.nextInt(94)));
        }
        return text.chars().toArray();
    }

    private static int near(Random random, int from, int to) {
        int draw = random.nextInt(60);
        if (draw == 0) {
            return random.nextBoolean() ? Integer.MIN_VALUE : Integer.MAX_VALUE;
        }
        if (draw < 6) {
            return random.nextBoolean() ? from - 1 : to + 1;
        }
        return draw < 10 ? (random.nextBoolean() ? from : to) : from + random.nextInt(to - from + 1);
    }

    private static int[] drawArguments(Random random, String name) {
        int[][] ranges = PlainTown.ranges(name);
        int[] a = new int[ranges.length];
        for (int i = 0; i < a.length; i++) {
            a[i] = near(random, ranges[i][0], ranges[i][1]);
        }
        if (name.equals("told") && random.nextInt(3) != 0) {
            a[0] = random.nextBoolean() ? 10 + random.nextInt(50) : 100 * (1 + random.nextInt(5)) + random.nextInt(3);
        }
        if (name.equals("say") && random.nextInt(3) != 0) {
            a[0] = "ABCDEabcde-.*".charAt(random.nextInt(13));
        }
        return a;
    }

    private static long callReal(CoatDinner x, String name, int[] a) {
        switch (name) {
            case "person": return x.person(a[0]);
            case "leave": return x.leave(a[0]);
            case "coat": return x.coat(a[0], a[1], a[2]);
            case "set": return x.set(a[0], a[1], a[2]);
            case "cap": return x.cap(a[0]);
            case "give": return x.give(a[0], a[1], a[2]);
            case "say": return x.say(a[0]);
            case "wipe": return x.wipe();
            case "fault": return x.fault();
            case "judge": return x.judge(a[0]);
            case "done": return x.done();
            case "state": return x.state(a[0], a[1]);
            case "behind": return x.behind(a[0], a[1]);
            case "at": return x.at(a[0]);
            case "beside": return x.beside(a[0], a[1]);
            case "head": return x.head(a[0], a[1]);
            case "ways": return x.ways(a[0], a[1]);
            case "seatings": return x.seatings();
            case "decides": return x.decides(a[0]);
            case "sewn": return x.sewn(a[0], a[1]);
            case "hired": return x.hired(a[0], a[1], a[2]);
            case "rises": return x.rises(a[0]);
            case "league": return x.league(a[0]);
            case "share": return x.share(a[0], a[1]);
            case "leaves": return x.leaves(a[0]);
            case "elected": return x.elected(a[0]);
            case "moths": return x.moths(a[0], a[1], a[2]);
            case "seen": return x.seen(a[0], a[1]);
            case "forget": return x.forget();
            case "fit": return x.fit(a[0]);
            case "year": return x.year(a[0], a[1], a[2]);
            case "image": return x.image(a[0]);
            case "restore": return x.restore(a[0]);
            default: return x.told(a[0]);
        }
    }
}

/** The document told a second time, plainly: maps, sorted lists, all rows of all people. */
final class PlainTown {
    static final String[] NAMES = {"person", "leave", "coat", "set", "cap", "give", "say", "wipe", "fault",
        "judge", "done", "state", "behind", "at", "beside", "head", "ways", "seatings", "decides", "sewn",
        "hired", "rises", "league", "share", "leaves", "elected", "moths", "seen", "forget", "fit", "year",
        "image", "restore", "told"};
    private static final int NONE = -6, UNKNOWN = -1, OUTSIDE = -2, STATE = -3, FULL = -4, NO = -5;
    private static final long LOST = -1000000000000000000L;
    private static final Set<String> CHANGING = Set.of("person", "leave", "coat", "set", "cap", "give", "say",
        "wipe", "done", "seen", "forget", "image", "restore");

    static final class Guest {
        int eaten, owes, owed, gift, choice;
        Integer wears;
    }

    static final class Cloth {
        int stitches, owner, fee, moths;
        boolean halves;
    }

    static final class World {
        TreeMap<Integer, Guest> guests = new TreeMap<>();
        TreeMap<Integer, Cloth> cloths = new TreeMap<>();
        int cap = 99;
        List<int[]> sights = new ArrayList<>();

        World copy() {
            World w = new World();
            guests.forEach((k, g) -> {
                Guest h = new Guest();
                h.eaten = g.eaten; h.owes = g.owes; h.owed = g.owed; h.gift = g.gift; h.choice = g.choice;
                h.wears = g.wears;
                w.guests.put(k, h);
            });
            cloths.forEach((k, c) -> {
                Cloth d = new Cloth();
                d.stitches = c.stitches; d.owner = c.owner; d.fee = c.fee; d.moths = c.moths; d.halves = c.halves;
                w.cloths.put(k, d);
            });
            w.cap = cap;
            w.sights = new ArrayList<>(sights);
            return w;
        }

        List<Integer> wearing(int coat) {
            List<Integer> all = new ArrayList<>();
            guests.forEach((k, g) -> {
                if (g.wears != null && g.wears == coat) {
                    all.add(k);
                }
            });
            return all;
        }

        int worth(int person) {
            Integer coat = guests.get(person).wears;
            if (coat == null) {
                return 0;
            }
            Cloth c = cloths.get(coat);
            int w = c.stitches > cap ? cap : c.stitches;
            return c.halves ? w / 2 : w;
        }

        List<Integer> row() {
            List<Integer> row = new ArrayList<>(guests.keySet());
            row.sort((p, q) -> worth(p) != worth(q) ? worth(q) - worth(p) : p - q);
            return row;
        }

        int seat(int person) {
            return row().indexOf(person);
        }

        int event(String e) {
            if (e.equals(".")) {
                course();
                return 0;
            }
            if (e.equals("*")) {
                guests.values().forEach(g -> g.eaten++);
                return 0;
            }
            Guest first = guests.get(e.charAt(0) - 'A');
            if (first == null) {
                return 1;
            }
            if (e.charAt(1) == '-') {
                if (first.wears == null) {
                    return 2;
                }
                first.wears = null;
                return 0;
            }
            int coat = e.charAt(e.length() - 1) - 'a';
            if (e.length() == 2) {
                return putOn(first, e.charAt(0) - 'A', coat);
            }
            Guest second = guests.get(e.charAt(1) - 'A');
            if (second == null || second == first) {
                return 1;
            }
            if (first.wears == null || first.wears != coat) {
                return 2;
            }
            if (second.wears != null) {
                return 3;
            }
            first.wears = null;
            second.wears = coat;
            return 0;
        }

        int putOn(Guest guest, int number, int coat) {
            if (guest.wears != null) {
                return 3;
            }
            if (!cloths.containsKey(coat) || cloths.get(coat).owner != number) {
                return 4;
            }
            if (wearing(coat).size() >= (cloths.get(coat).halves ? 2 : 1)) {
                return 5;
            }
            guest.wears = coat;
            return 0;
        }

        void course() {
            List<Integer> row = row();
            Set<Integer> worn = new HashSet<>();
            for (int s = 0; s < row.size(); s++) {
                Guest g = guests.get(row.get(s));
                int portions = row.size() - s;
                g.eaten += portions;
                if (g.wears != null) {
                    worn.add(g.wears);
                    int owner = cloths.get(g.wears).owner;
                    if (owner != row.get(s)) {
                        g.owes += portions / 2;
                        guests.get(owner).owed += portions / 2;
                    }
                }
            }
            for (int c : worn) {
                cloths.get(c).stitches = Math.max(0, cloths.get(c).stitches - 1);
            }
        }

        String key() {
            StringBuilder b = new StringBuilder();
            guests.forEach((k, g) -> b.append(k).append(g.wears == null ? "-" : g.wears.toString()));
            return b.toString();
        }

        int league(int set) {
            List<Integer> all = new ArrayList<>();
            cloths.values().forEach(c -> {
                if ((set & 1 << c.owner) != 0) {
                    all.add(c.stitches);
                }
            });
            all.sort((a, b) -> b - a);
            return all.stream().limit(Integer.bitCount(set)).mapToInt(Integer::intValue).sum();
        }

        int winner() {
            int[] votes = new int[3];
            guests.forEach((k, g) -> votes[g.choice] += worth(k));
            return votes[0] >= votes[1] && votes[0] >= votes[2] ? 0 : votes[1] >= votes[2] ? 1 : 2;
        }

        boolean sightsHold() {
            List<Integer> row = row();
            return sights.stream().allMatch(s -> row.indexOf(s[0]) == s[1]);
        }
    }

    private World world = new World();
    private String pad = "";
    private final World[] images = new World[2];

    boolean changes(String name) {
        return CHANGING.contains(name);
    }

    static int[][] ranges(String name) {
        int[] five = {0, 4}, two = {0, 1}, three = {0, 2};
        switch (name) {
            case "person": case "leave": case "decides": return new int[][] {five};
            case "coat": return new int[][] {five, {0, 99}, five};
            case "set": return new int[][] {five, three, {0, 10}};
            case "cap": case "rises": return new int[][] {{1, 20}};
            case "give": return new int[][] {five, two, {0, 20}};
            case "say": return new int[][] {{33, 126}};
            case "judge": case "leaves": case "elected": case "image": case "restore": return new int[][] {two};
            case "state": case "behind": case "beside": case "head": case "sewn": case "seen":
                return new int[][] {five, five};
            case "at": return new int[][] {five};
            case "ways": return new int[][] {{-1, 4}, five};
            case "hired": case "moths": return new int[][] {five, five, two};
            case "league": return new int[][] {{0, 31}};
            case "share": return new int[][] {five, two};
            case "fit": return new int[][] {{-1, 4}};
            case "year": return new int[][] {{0, 9999}, {1, 99}, three};
            case "told": return new int[][] {{0, 4}};
            default: return new int[0][];
        }
    }

    private static boolean out(int v, int from, int to) {
        return v < from || v > to;
    }

    long call(String name, int[] a) {
        switch (name) {
            case "person": return person(a[0]);
            case "leave": return leave(a[0]);
            case "coat": return coat(a[0], a[1], a[2]);
            case "set": return set(a[0], a[1], a[2]);
            case "cap": return cap(a[0]);
            case "give": return give(a[0], a[1], a[2]);
            case "say":
                if (out(a[0], 33, 126)) {
                    return OUTSIDE;
                }
                if (pad.length() == 60) {
                    return FULL;
                }
                pad += (char) a[0];
                return pad.length();
            case "wipe": {
                int n = pad.length();
                pad = "";
                return n;
            }
            case "fault": return fault();
            case "judge": return judge(a[0]);
            case "done": return done();
            case "state": return state(a[0], a[1], false);
            case "behind": return state(a[0], a[1], true);
            case "at": return out(a[0], 0, world.row().size() - 1) ? NONE : world.row().get(a[0]);
            case "beside": return beside(a[0], a[1]);
            case "head": return head(a[0], a[1]);
            case "ways": return ways(a[0], a[1]);
            case "seatings": return allWays().stream().map(World::row).distinct().count();
            case "decides": return decides(a[0]);
            case "sewn": return sewn(a[0], a[1]);
            case "hired": return hired(a[0], a[1], a[2]);
            case "rises": return rises(a[0]);
            case "league": return isSubset(a[0]) ? world.league(a[0]) : OUTSIDE;
            case "share": return share(a[0], a[1]);
            case "leaves": return leaves(a[0]);
            case "elected": return elected(a[0]);
            case "moths": return moths(a[0], a[1], a[2]);
            case "seen": return seen(a[0], a[1]);
            case "forget": {
                int n = world.sights.size();
                world.sights.clear();
                return n;
            }
            case "fit": return fit(a[0]);
            case "year": return year(a[0], a[1], a[2]);
            case "image":
                if (out(a[0], 0, 1)) {
                    return OUTSIDE;
                }
                images[a[0]] = world.copy();
                return 1;
            case "restore":
                if (out(a[0], 0, 1)) {
                    return OUTSIDE;
                }
                if (images[a[0]] == null) {
                    return STATE;
                }
                world = images[a[0]].copy();
                return 1;
            default: return told(a[0]);
        }
    }

    private boolean there(int person) {
        return world.guests.containsKey(person);
    }

    private int bits(Iterable<Integer> all) {
        int set = 0;
        for (int i : all) {
            set += 1 << i;
        }
        return set;
    }

    private int person(int p) {
        if (out(p, 0, 4)) {
            return UNKNOWN;
        }
        if (there(p)) {
            return STATE;
        }
        world.guests.put(p, new Guest());
        return world.guests.size();
    }

    private int leave(int p) {
        if (!there(p)) {
            return UNKNOWN;
        }
        world.cloths.entrySet().removeIf(e -> {
            if (e.getValue().owner == p) {
                world.wearing(e.getKey()).forEach(q -> world.guests.get(q).wears = null);
                return true;
            }
            return false;
        });
        world.guests.remove(p);
        return world.guests.size();
    }

    private int coat(int c, int stitches, int owner) {
        if (out(c, 0, 4) || !there(owner)) {
            return UNKNOWN;
        }
        if (out(stitches, 0, 99)) {
            return OUTSIDE;
        }
        world.wearing(c).forEach(q -> world.guests.get(q).wears = null);
        Cloth cloth = new Cloth();
        cloth.stitches = stitches;
        cloth.owner = owner;
        world.cloths.put(c, cloth);
        return world.cloths.size();
    }

    private int set(int c, int what, int v) {
        Cloth cloth = world.cloths.get(c);
        if (cloth == null) {
            return UNKNOWN;
        }
        if (out(what, 0, 2) || out(v, 0, new int[] {99, 10, 1}[what])) {
            return OUTSIDE;
        }
        int old;
        if (what == 0) {
            old = cloth.fee;
            cloth.fee = v;
        } else if (what == 1) {
            old = cloth.moths;
            cloth.moths = v;
        } else {
            if (v == 0 && world.wearing(c).size() == 2) {
                return STATE;
            }
            old = cloth.halves ? 1 : 0;
            cloth.halves = v == 1;
        }
        return old;
    }

    private int cap(int v) {
        if (out(v, 1, 99)) {
            return OUTSIDE;
        }
        int old = world.cap;
        world.cap = v;
        return old;
    }

    private int give(int p, int what, int v) {
        if (!there(p)) {
            return UNKNOWN;
        }
        if (out(what, 0, 1) || out(v, 0, new int[] {999, 2}[what])) {
            return OUTSIDE;
        }
        Guest g = world.guests.get(p);
        int old = what == 0 ? g.gift : g.choice;
        if (what == 0) {
            g.gift = v;
        } else {
            g.choice = v;
        }
        return old;
    }

    private static final Pattern EVENT = Pattern.compile("[A-E][A-E][a-e]|[A-E][-a-e]|[.*]");

    /** The longest beginning that some feast has: what is behind it can not stand there. */
    private int fault() {
        if (pad.matches("([A-E][A-E][a-e]|[A-E][-a-e]|[.*])*")) {
            return NONE;
        }
        for (int n = pad.length(); n >= 0; n--) {
            if (pad.substring(0, n).matches("([A-E][A-E][a-e]|[A-E][-a-e]|[.*])*([A-E][A-E]?)?")) {
                return n;
            }
        }
        return 0;
    }

    private List<String> events() {
        List<String> all = new ArrayList<>();
        Matcher m = EVENT.matcher(pad);
        while (m.find()) {
            all.add(m.group());
        }
        return all;
    }

    private int judge(int what) {
        if (out(what, 0, 1)) {
            return OUTSIDE;
        }
        if (fault() != NONE) {
            return NO;
        }
        World w = world.copy();
        int n = 0;
        for (String e : events()) {
            int why = w.event(e);
            if (why != 0) {
                return what == 0 ? n : why;
            }
            n++;
        }
        return NONE;
    }

    private int done() {
        if (judge(0) != NONE) {
            return NO;
        }
        List<String> all = events();
        all.forEach(world::event);
        pad = "";
        return all.size();
    }

    private int state(int p, int what, boolean behind) {
        if (!there(p)) {
            return UNKNOWN;
        }
        if (out(what, 0, 4)) {
            return OUTSIDE;
        }
        World w = world;
        if (behind) {
            if (judge(0) != NONE) {
                return NO;
            }
            w = world.copy();
            events().forEach(w::event);
        }
        Guest g = w.guests.get(p);
        int wears = g.wears == null ? NONE : g.wears;
        return new int[] {wears, g.eaten, g.owes, g.owed, w.seat(p)}[what];
    }

    private interface Goal {
        boolean holds(World w);
    }

    private int search(Goal goal) {
        Map<String, Integer> steps = new HashMap<>();
        ArrayDeque<World> queue = new ArrayDeque<>();
        queue.add(world.copy());
        steps.put(world.key(), 0);
        while (!queue.isEmpty()) {
            World w = queue.remove();
            int n = steps.get(w.key());
            if (goal.holds(w)) {
                return n;
            }
            if (n < 6) {
                for (World next : following(w)) {
                    if (steps.putIfAbsent(next.key(), n + 1) == null) {
                        queue.add(next);
                    }
                }
            }
        }
        return NONE;
    }

    private List<World> following(World w) {
        List<World> all = new ArrayList<>();
        for (int p : w.guests.keySet()) {
            List<String> tries = new ArrayList<>();
            String name = String.valueOf((char) ('A' + p));
            tries.add(name + "-");
            for (int c : w.cloths.keySet()) {
                char coat = (char) ('a' + c);
                tries.add(name + coat);
                if (w.guests.get(p).wears != null && w.guests.get(p).wears == c) {
                    w.guests.keySet().forEach(q -> tries.add(name + (char) ('A' + q) + coat));
                }
            }
            for (String e : tries) {
                World next = w.copy();
                if (next.event(e) == 0) {
                    all.add(next);
                }
            }
        }
        return all;
    }

    private int beside(int p, int q) {
        if (!there(p) || !there(q) || p == q) {
            return UNKNOWN;
        }
        return search(w -> w.seat(p) == w.seat(q) + 1 || w.seat(q) == w.seat(p) + 1);
    }

    private int head(int p, int s) {
        if (!there(p)) {
            return UNKNOWN;
        }
        return out(s, 0, 4) ? OUTSIDE : search(w -> w.seat(p) <= s);
    }

    private List<World> allWays() {
        World naked = world.copy();
        naked.guests.values().forEach(g -> g.wears = null);
        List<World> all = new ArrayList<>();
        all.add(naked);
        for (int p : world.guests.keySet()) {
            List<World> more = new ArrayList<>(all);
            for (World w : all) {
                w.cloths.forEach((c, cloth) -> {
                    if (w.wearing(c).size() < (cloth.halves ? 2 : 1)) {
                        World next = w.copy();
                        next.guests.get(p).wears = c;
                        more.add(next);
                    }
                });
            }
            all = more;
        }
        return all;
    }

    private long ways(int p, int seat) {
        if (p != -1 && !there(p)) {
            return UNKNOWN;
        }
        if (out(seat, 0, 4)) {
            return OUTSIDE;
        }
        return allWays().stream().filter(w -> p == -1 || w.seat(p) == seat).count();
    }

    private int decides(int c) {
        if (!world.cloths.containsKey(c)) {
            return UNKNOWN;
        }
        Set<Integer> all = new TreeSet<>();
        for (int p : world.guests.keySet()) {
            List<Integer> others = world.wearing(c);
            others.remove((Integer) p);
            World w = world.copy();
            w.guests.get(p).wears = c;
            if (others.isEmpty() && w.seat(p) != world.seat(p)) {
                all.add(p);
            }
        }
        return bits(all);
    }

    private int sewn(int p, int s) {
        if (!there(p)) {
            return UNKNOWN;
        }
        if (out(s, 0, 4)) {
            return OUTSIDE;
        }
        Integer c = world.guests.get(p).wears;
        for (int more = 0; c != null && world.cloths.get(c).stitches + more <= 99; more++) {
            World w = world.copy();
            w.cloths.get(c).stitches += more;
            if (w.seat(p) <= s) {
                return more;
            }
        }
        return NONE;
    }

    private int hired(int p, int s, int what) {
        if (!there(p)) {
            return UNKNOWN;
        }
        if (out(s, 0, 4) || out(what, 0, 1)) {
            return OUTSIDE;
        }
        List<int[]> good = new ArrayList<>();
        world.cloths.forEach((c, cloth) -> {
            List<Integer> wearing = world.wearing(c);
            World w = world.copy();
            w.guests.get(p).wears = c;
            if ((wearing.isEmpty() || wearing.contains(p)) && w.seat(p) <= s) {
                good.add(new int[] {cloth.owner == p ? 0 : cloth.fee, c});
            }
        });
        good.sort((x, y) -> x[0] != y[0] ? x[0] - y[0] : x[1] - y[1]);
        return good.isEmpty() ? NONE : good.get(0)[what];
    }

    private int rises(int v) {
        if (out(v, 1, 99)) {
            return OUTSIDE;
        }
        World w = world.copy();
        w.cap = v;
        List<Integer> all = new ArrayList<>(world.guests.keySet());
        all.removeIf(p -> w.seat(p) >= world.seat(p));
        return bits(all);
    }

    private boolean isSubset(int set) {
        return (set | bits(world.guests.keySet())) == bits(world.guests.keySet());
    }

    private static void permute(List<Integer> ahead, List<Integer> left, List<List<Integer>> all) {
        if (left.isEmpty()) {
            all.add(ahead);
        }
        for (Integer i : left) {
            List<Integer> longer = new ArrayList<>(ahead);
            longer.add(i);
            List<Integer> rest = new ArrayList<>(left);
            rest.remove(i);
            permute(longer, rest, all);
        }
    }

    private static long part(BigInteger upper, BigInteger lower, int part) {
        BigInteger g = upper.gcd(lower);
        return (part == 0 ? upper : lower).divide(g).longValueExact();
    }

    private long share(int p, int part) {
        if (!there(p)) {
            return LOST + UNKNOWN;
        }
        if (out(part, 0, 1)) {
            return LOST + OUTSIDE;
        }
        List<List<Integer>> rows = new ArrayList<>();
        permute(new ArrayList<>(), new ArrayList<>(world.guests.keySet()), rows);
        long sum = 0;
        for (List<Integer> row : rows) {
            int ahead = bits(row.subList(0, row.indexOf(p)));
            sum += world.league(ahead + (1 << p)) - world.league(ahead);
        }
        return part(BigInteger.valueOf(sum), BigInteger.valueOf(rows.size()), part);
    }

    private int leaves(int what) {
        if (out(what, 0, 1)) {
            return OUTSIDE;
        }
        List<Integer> all = new ArrayList<>();
        for (int set = 1; set < 32; set++) {
            int gifts = 0;
            for (Map.Entry<Integer, Guest> e : world.guests.entrySet()) {
                gifts += (set & 1 << e.getKey()) != 0 ? e.getValue().gift : 0;
            }
            if (isSubset(set) && world.league(set) > gifts) {
                all.add(set);
            }
        }
        return what == 0 ? all.size() : all.isEmpty() ? NONE : all.get(0);
    }

    private int elected(int what) {
        if (out(what, 0, 1)) {
            return OUTSIDE;
        }
        if (what == 0) {
            return world.winner();
        }
        Set<Integer> winners = new HashSet<>();
        allWays().forEach(w -> winners.add(w.winner()));
        return winners.size() == 1 ? winners.iterator().next() : NONE;
    }

    private long moths(int p, int seat, int part) {
        if (!there(p)) {
            return LOST + UNKNOWN;
        }
        if (out(seat, 0, 4) || out(part, 0, 1)) {
            return LOST + OUTSIDE;
        }
        List<Integer> worn = new ArrayList<>(world.cloths.keySet());
        worn.removeIf(c -> world.wearing(c).isEmpty());
        BigInteger good = mothCases(world.copy(), worn, p, seat);
        return part(good, BigInteger.TEN.pow(worn.size()), part);
    }

    private BigInteger mothCases(World w, List<Integer> left, int p, int seat) {
        if (left.isEmpty()) {
            return w.seat(p) == seat ? BigInteger.ONE : BigInteger.ZERO;
        }
        int c = left.get(0);
        List<Integer> rest = left.subList(1, left.size());
        World without = w.copy();
        without.wearing(c).forEach(q -> without.guests.get(q).wears = null);
        int tenths = world.cloths.get(c).moths;
        return mothCases(without, rest, p, seat).multiply(BigInteger.valueOf(tenths))
            .add(mothCases(w, rest, p, seat).multiply(BigInteger.valueOf(10 - tenths)));
    }

    private int seen(int p, int seat) {
        if (out(p, 0, 4)) {
            return UNKNOWN;
        }
        if (out(seat, 0, 4)) {
            return OUTSIDE;
        }
        if (world.sights.size() == 6) {
            return FULL;
        }
        world.sights.add(new int[] {p, seat});
        return world.sights.size();
    }

    private int fit(int c) {
        if (c != -1 && !world.cloths.containsKey(c)) {
            return UNKNOWN;
        }
        List<World> all = allWays();
        all.removeIf(w -> !w.sightsHold());
        if (c == -1) {
            return all.size();
        }
        Set<Integer> by = new TreeSet<>();
        for (World w : all) {
            by.addAll(w.wearing(c).isEmpty() ? List.of(5) : w.wearing(c));
        }
        return bits(by);
    }

    private int year(int seed, int m, int what) {
        if (out(seed, 0, 9999) || out(m, 1, 99) || out(what, 0, 2)) {
            return OUTSIDE;
        }
        World w = world.copy();
        long x = seed;
        for (int n = 0; n < m; n++) {
            x = (75 * x + 74) % 65537;
            char name = (char) ('A' + x % 5);
            Guest g = w.guests.get((int) (x % 5));
            if (g != null) {
                w.event(g.wears != null ? name + "-" : name + "" + (char) ('a' + x / 5 % 5));
            }
            w.event(x / 25 % 7 == 0 ? "*" : ".");
        }
        if (what == 0) {
            return there(0) ? w.guests.get(0).eaten - world.guests.get(0).eaten : 0;
        }
        return what == 1 ? w.guests.values().stream().mapToInt(g -> g.owes).sum()
            : w.cloths.values().stream().mapToInt(c -> c.stitches).sum();
    }

    private int told(int what) {
        if (what >= 0 && what <= 4) {
            return new int[] {pad.length(), bits(world.guests.keySet()), bits(world.cloths.keySet()), world.cap,
                world.sights.size()}[what];
        }
        for (Map.Entry<Integer, Cloth> e : world.cloths.entrySet()) {
            Cloth c = e.getValue();
            int[] all = {c.stitches, c.owner, c.fee, c.moths, c.halves ? 1 : 0, bits(world.wearing(e.getKey()))};
            for (int i = 0; i < 6; i++) {
                if (what == 10 * (1 + e.getKey()) + i) {
                    return all[i];
                }
            }
        }
        for (Map.Entry<Integer, Guest> e : world.guests.entrySet()) {
            if (what == 100 * (1 + e.getKey())) {
                return e.getValue().gift;
            }
            if (what == 100 * (1 + e.getKey()) + 1) {
                return e.getValue().choice;
            }
        }
        return OUTSIDE;
    }
}
