/**
 * The feasts of a town where one is seated by the coat one wears.
 * ../shared/DOC.md tells every call; words in capitals there are the plain names here.
 */
public final class CoatDinner {
    public static final int NONE = -6, UNKNOWN = -1, OUTSIDE = -2, STATE = -3, FULL = -4, NO = -5;
    public static final long LOST = -1000000000000000000L;

    private static final int PEOPLE = 5, COATS = 5, NOTHING = -1, NOBODY = -1, ALL_WAYS = -1;
    private static final int MOST_STITCHES = 99, MOST_FEE = 99, MOST_MOTHS = 10, MOST_CAP = 99;
    private static final int MOST_GIFT = 999, CHOICES = 3, MOST_SIGHTS = 6, IMAGES = 2;
    private static final int MOST_SIGNS = 60, FIRST_SIGN = 33, LAST_SIGN = 126;
    private static final int MOST_STEPS = 6, TENTHS = 10, SETS = 32, BY_NOBODY = 32;
    private static final int MOST_SEED = 9999, MOST_COURSES = 99;

    /** Each of five people wears nothing or one of five coats: 6 to the fifth is above all ways. */
    private static final int MOST_WAYS = 7776;
    private static final int[] SIXES = {1, 6, 36, 216, 1296};
    private static final int WAY_WORDS = 243;

    /** A row of people as a number of base five, by the seat of each. */
    private static final int[] FIVES = {1, 5, 25, 125, 625};
    private static final int ROW_WORDS = 98;

    private static final int[] FACTORIALS = {1, 1, 2, 6, 24, 120};

    private final Town town = new Town();
    private final Town trial = new Town();
    private final Town firstImage = new Town();
    private final Town secondImage = new Town();
    private final boolean[] kept = new boolean[IMAGES];
    private final Pad pad = new Pad();
    private final Table table = new Table();
    private final Feast feast = new Feast(table);
    private final Ways allWays = new Ways(table);
    private final Steps steps = new Steps(table);

    public CoatDinner() {
    }

    // ---- 1 people, coats, feasts

    public int person(int person) {
        if (!within(person, PEOPLE - 1)) {
            return UNKNOWN;
        }
        if (town.hasPerson(person)) {
            return STATE;
        }
        town.welcome(person);
        return Integer.bitCount(town.people);
    }

    public int leave(int person) {
        if (!town.hasPerson(person)) {
            return UNKNOWN;
        }
        town.depart(person);
        return Integer.bitCount(town.people);
    }

    public int coat(int coat, int stitches, int owner) {
        if (!within(coat, COATS - 1) || !town.hasPerson(owner)) {
            return UNKNOWN;
        }
        if (!within(stitches, MOST_STITCHES)) {
            return OUTSIDE;
        }
        town.bring(coat, stitches, owner);
        return Integer.bitCount(town.coats);
    }

    public int set(int coat, int what, int v) {
        if (!town.hasCoat(coat)) {
            return UNKNOWN;
        }
        if (!within(what, 2) || !within(v, mostOfTrait(what))) {
            return OUTSIDE;
        }
        if (what == 2 && v == 0 && Integer.bitCount(town.wearers(coat)) > 1) {
            return STATE;
        }
        int[] row = town.trait(what);
        int old = row[coat];
        row[coat] = v;
        return old;
    }

    public int cap(int v) {
        if (!isCap(v)) {
            return OUTSIDE;
        }
        int old = town.limit;
        town.limit = v;
        return old;
    }

    public int give(int person, int what, int v) {
        if (!town.hasPerson(person)) {
            return UNKNOWN;
        }
        if (!within(what, 1) || !within(v, what == 0 ? MOST_GIFT : CHOICES - 1)) {
            return OUTSIDE;
        }
        int[] row = what == 0 ? town.gifts : town.choices;
        int old = row[person];
        row[person] = v;
        return old;
    }

    public int say(int sign) {
        if (sign < FIRST_SIGN || sign > LAST_SIGN) {
            return OUTSIDE;
        }
        return pad.add(sign) ? pad.count : FULL;
    }

    public int wipe() {
        return pad.clear();
    }

    public int fault() {
        return pad.firstFault();
    }

    // ---- 2 feasts, steps

    public int judge(int what) {
        if (!within(what, 1)) {
            return OUTSIDE;
        }
        if (pad.firstFault() != NONE) {
            return NO;
        }
        if (tryFeast()) {
            return NONE;
        }
        return what == 0 ? feast.events : feast.why;
    }

    public int done() {
        if (!tryFeast()) {
            return NO;
        }
        town.become(trial);
        pad.clear();
        return feast.events;
    }

    public int state(int person, int what) {
        if (!town.hasPerson(person)) {
            return UNKNOWN;
        }
        if (!within(what, 4)) {
            return OUTSIDE;
        }
        return stateIn(town, person, what);
    }

    public int behind(int person, int what) {
        if (!town.hasPerson(person)) {
            return UNKNOWN;
        }
        if (!within(what, 4)) {
            return OUTSIDE;
        }
        return tryFeast() ? stateIn(trial, person, what) : NO;
    }

    public int at(int seat) {
        table.lay(town);
        for (int p = 0; p < PEOPLE; p++) {
            if (town.hasPerson(p) && table.seatOf(p) == seat) {
                return p;
            }
        }
        return NONE;
    }

    public int beside(int person, int other) {
        if (!town.hasPerson(person) || !town.hasPerson(other) || person == other) {
            return UNKNOWN;
        }
        return steps.fewest(town, person, other, 0);
    }

    public int head(int person, int s) {
        if (!town.hasPerson(person)) {
            return UNKNOWN;
        }
        if (!isSeat(s)) {
            return OUTSIDE;
        }
        return steps.fewest(town, person, NOBODY, s);
    }

    // ---- 3 ways, sewing, hiring

    public int ways(int person, int seat) {
        if (person != ALL_WAYS && !town.hasPerson(person)) {
            return UNKNOWN;
        }
        if (!isSeat(seat)) {
            return OUTSIDE;
        }
        int many = 0;
        allWays.begin(town);
        for (int n = 0; n < MOST_WAYS && allWays.more; n++) {
            if (person == ALL_WAYS || allWays.seatOf(person) == seat) {
                many++;
            }
            allWays.goOn();
        }
        return many;
    }

    public int seatings() {
        return allWays.countRows(town);
    }

    public int decides(int coat) {
        if (!town.hasCoat(coat)) {
            return UNKNOWN;
        }
        int set = 0;
        trial.become(town);
        for (int p = 0; p < PEOPLE; p++) {
            if (town.hasPerson(p) && !town.wornByOther(coat, p)) {
                trial.wears[p] = coat;
                if (seatIn(trial, p) != seatIn(town, p)) {
                    set |= 1 << p;
                }
                trial.wears[p] = town.wears[p];
            }
        }
        return set;
    }

    public int sewn(int person, int s) {
        if (!town.hasPerson(person)) {
            return UNKNOWN;
        }
        if (!isSeat(s)) {
            return OUTSIDE;
        }
        int coat = town.wears[person];
        if (!town.hasCoat(coat)) {
            return NONE;
        }
        trial.become(town);
        for (int stitches = town.stitches[coat]; stitches <= MOST_STITCHES; stitches++) {
            trial.stitches[coat] = stitches;
            if (seatIn(trial, person) <= s) {
                return stitches - town.stitches[coat];
            }
        }
        return NONE;
    }

    public int hired(int person, int s, int what) {
        if (!town.hasPerson(person)) {
            return UNKNOWN;
        }
        if (!isSeat(s) || !within(what, 1)) {
            return OUTSIDE;
        }
        int best = NONE;
        int price = 0;
        trial.become(town);
        for (int c = 0; c < COATS; c++) {
            if (town.canHire(person, c)) {
                trial.wears[person] = c;
                int fee = town.owners[c] == person ? 0 : town.fees[c];
                if (seatIn(trial, person) <= s && (best == NONE || fee < price)) {
                    best = c;
                    price = fee;
                }
            }
        }
        return best == NONE || what == 1 ? best : price;
    }

    public int rises(int v) {
        if (!isCap(v)) {
            return OUTSIDE;
        }
        int set = 0;
        trial.become(town);
        trial.limit = v;
        for (int p = 0; p < PEOPLE; p++) {
            if (town.hasPerson(p) && seatIn(trial, p) < seatIn(town, p)) {
                set |= 1 << p;
            }
        }
        return set;
    }

    // ---- 4 leagues, elections, moths

    public int league(int set) {
        if (!town.isLeague(set)) {
            return OUTSIDE;
        }
        return town.worthOfLeague(set);
    }

    public long share(int person, int part) {
        if (!town.hasPerson(person)) {
            return LOST + UNKNOWN;
        }
        if (!within(part, 1)) {
            return LOST + OUTSIDE;
        }
        int many = Integer.bitCount(town.people);
        long sum = 0;
        for (int set = 0; set < SETS; set++) {
            if (town.isLeague(set) && (set >> person & 1) == 0) {
                int added = town.worthOfLeague(set | 1 << person) - town.worthOfLeague(set);
                sum += rowsWithAhead(Integer.bitCount(set), many) * added;
            }
        }
        return partOf(sum, factorial(many), part);
    }

    public int leaves(int what) {
        if (!within(what, 1)) {
            return OUTSIDE;
        }
        int many = 0;
        int first = NONE;
        for (int set = 1; set < SETS; set++) {
            if (town.isLeague(set) && town.worthOfLeague(set) > town.giftsOfLeague(set)) {
                many++;
                first = first == NONE ? set : first;
            }
        }
        return what == 0 ? many : first;
    }

    public int elected(int what) {
        if (!within(what, 1)) {
            return OUTSIDE;
        }
        if (what == 0) {
            table.lay(town);
            return table.winner(town);
        }
        return sureWinner();
    }

    public long moths(int person, int seat, int part) {
        if (!town.hasPerson(person)) {
            return LOST + UNKNOWN;
        }
        if (!isSeat(seat) || !within(part, 1)) {
            return LOST + OUTSIDE;
        }
        int worn = town.wornCoats();
        long sum = 0;
        long all = 1;
        for (int c = 0; c < Integer.bitCount(worn); c++) {
            all *= TENTHS;
        }
        for (int eaten = 0; eaten < SETS; eaten++) {
            if ((eaten & ~worn) == 0) {
                trial.become(town);
                trial.loseCoats(eaten);
                if (seatIn(trial, person) == seat) {
                    sum += town.chanceOf(eaten, worn);
                }
            }
        }
        return partOf(sum, all, part);
    }

    // ---- 5 sights, years

    public int seen(int person, int seat) {
        if (!within(person, PEOPLE - 1)) {
            return UNKNOWN;
        }
        if (!isSeat(seat)) {
            return OUTSIDE;
        }
        return town.addSight(person, seat) ? town.sights : FULL;
    }

    public int forget() {
        int old = town.sights;
        town.sights = 0;
        return old;
    }

    public int fit(int coat) {
        if (coat != ALL_WAYS && !town.hasCoat(coat)) {
            return UNKNOWN;
        }
        int many = 0;
        int wearers = 0;
        allWays.begin(town);
        for (int n = 0; n < MOST_WAYS && allWays.more; n++) {
            if (allWays.sightsHold()) {
                many++;
                wearers |= allWays.wearersOf(coat);
            }
            allWays.goOn();
        }
        return coat == ALL_WAYS ? many : wearers;
    }

    public int year(int seed, int m, int what) {
        if (!within(seed, MOST_SEED) || m < 1 || m > MOST_COURSES || !within(what, 2)) {
            return OUTSIDE;
        }
        trial.become(town);
        int x = seed;
        for (int n = 0; n < m; n++) {
            x = (75 * x + 74) % 65537;
            trial.change(x % 5, x / 5 % 5);
            if (x / 25 % 7 == 0) {
                trial.fast();
            } else {
                trial.dine(table);
            }
        }
        if (what == 0) {
            return town.hasPerson(0) ? trial.eaten[0] - town.eaten[0] : 0;
        }
        return what == 1 ? trial.allOwed() : trial.allStitches();
    }

    public int image(int n) {
        if (!within(n, IMAGES - 1)) {
            return OUTSIDE;
        }
        imageOf(n).become(town);
        kept[n] = true;
        return 1;
    }

    public int restore(int n) {
        if (!within(n, IMAGES - 1)) {
            return OUTSIDE;
        }
        if (!kept[n]) {
            return STATE;
        }
        town.become(imageOf(n));
        return 1;
    }

    public int told(int what) {
        if (within(what, 4)) {
            return toldOfAll(what);
        }
        if (what >= 10 && what < 10 * (1 + COATS)) {
            return toldOfCoat(what / 10 - 1, what % 10);
        }
        if (what >= 100 && what < 100 * (1 + PEOPLE)) {
            return toldOfPerson(what / 100 - 1, what % 100);
        }
        return OUTSIDE;
    }

    // ---- what several calls need

    private static boolean within(int v, int most) {
        return v >= 0 && v <= most;
    }

    private static boolean isSeat(int seat) {
        return within(seat, PEOPLE - 1);
    }

    private static boolean isCap(int v) {
        return v >= 1 && v <= MOST_CAP;
    }

    private Town imageOf(int n) {
        return n == 0 ? firstImage : secondImage;
    }

    private static int mostOfTrait(int what) {
        if (what == 0) {
            return MOST_FEE;
        }
        return what == 1 ? MOST_MOTHS : 1;
    }

    /** Holds the feast of the pad in the trial town, as the town is now; whether all of it can be. */
    private boolean tryFeast() {
        if (pad.firstFault() != NONE) {
            return false;
        }
        trial.become(town);
        feast.hold(trial, pad);
        return feast.why == 0;
    }

    private int seatIn(Town where, int person) {
        table.lay(where);
        return table.seatOf(person);
    }

    private int stateIn(Town where, int person, int what) {
        if (!within(person, PEOPLE - 1)) {
            return UNKNOWN;
        }
        switch (what) {
            case 0:
                return where.wears[person] == NOTHING ? NONE : where.wears[person];
            case 1:
                return where.eaten[person];
            case 2:
                return where.owes[person];
            case 3:
                return where.owed[person];
            default:
                return seatIn(where, person);
        }
    }

    private int sureWinner() {
        int winner = NONE;
        allWays.begin(town);
        for (int n = 0; n < MOST_WAYS && allWays.more; n++) {
            int now = allWays.winner();
            if (winner != NONE && winner != now) {
                return NONE;
            }
            winner = now;
            allWays.goOn();
        }
        return winner;
    }

    private static long factorial(int n) {
        return within(n, PEOPLE) ? FACTORIALS[n] : 1;
    }

    /** How many rows of all have just these people, so many, ahead of one told person. */
    private static long rowsWithAhead(int ahead, int all) {
        return factorial(ahead) * factorial(all - ahead - 1);
    }

    private static long partOf(long upper, long lower, int part) {
        long divisor = commonDivisor(upper, lower);
        if (divisor == 0) {
            return 0;
        }
        return (part == 0 ? upper : lower) / divisor;
    }

    private static long commonDivisor(long a, long b) {
        long great = a;
        long small = b;
        // Euclid's steps on two longs are fewer than a hundred.
        for (int n = 0; n < 100 && small != 0; n++) {
            long rest = great % small;
            great = small;
            small = rest;
        }
        return great;
    }

    private int toldOfAll(int what) {
        switch (what) {
            case 0:
                return pad.count;
            case 1:
                return town.people;
            case 2:
                return town.coats;
            case 3:
                return town.limit;
            default:
                return town.sights;
        }
    }

    private int toldOfCoat(int coat, int what) {
        if (!town.hasCoat(coat)) {
            return OUTSIDE;
        }
        switch (what) {
            case 0:
                return town.stitches[coat];
            case 1:
                return town.owners[coat];
            case 2:
                return town.fees[coat];
            case 3:
                return town.mothTenths[coat];
            case 4:
                return town.halves[coat];
            case 5:
                return town.wearers(coat);
            default:
                return OUTSIDE;
        }
    }

    private int toldOfPerson(int person, int what) {
        if (!town.hasPerson(person) || !within(what, 1)) {
            return OUTSIDE;
        }
        return what == 0 ? town.gifts[person] : town.choices[person];
    }

    /** All that an image keeps: people, coats, who wears and owes what, the cap, the sights. */
    private static final class Town {
        private int people;
        private int coats;
        private int limit = MOST_CAP;
        private int sights;
        private final int[] wears = {NOTHING, NOTHING, NOTHING, NOTHING, NOTHING};
        private final int[] eaten = new int[PEOPLE];
        private final int[] owes = new int[PEOPLE];
        private final int[] owed = new int[PEOPLE];
        private final int[] gifts = new int[PEOPLE];
        private final int[] choices = new int[PEOPLE];
        private final int[] stitches = new int[COATS];
        private final int[] owners = new int[COATS];
        private final int[] fees = new int[COATS];
        private final int[] mothTenths = new int[COATS];
        private final int[] halves = new int[COATS];
        private final int[] sightPeople = new int[MOST_SIGHTS];
        private final int[] sightSeats = new int[MOST_SIGHTS];

        private void become(Town from) {
            people = from.people;
            coats = from.coats;
            limit = from.limit;
            sights = from.sights;
            for (int p = 0; p < PEOPLE; p++) {
                wears[p] = from.wears[p];
                eaten[p] = from.eaten[p];
                owes[p] = from.owes[p];
                owed[p] = from.owed[p];
                gifts[p] = from.gifts[p];
                choices[p] = from.choices[p];
            }
            for (int c = 0; c < COATS; c++) {
                stitches[c] = from.stitches[c];
                owners[c] = from.owners[c];
                fees[c] = from.fees[c];
                mothTenths[c] = from.mothTenths[c];
                halves[c] = from.halves[c];
            }
            for (int s = 0; s < MOST_SIGHTS; s++) {
                sightPeople[s] = from.sightPeople[s];
                sightSeats[s] = from.sightSeats[s];
            }
        }

        private boolean hasPerson(int person) {
            return person >= 0 && person < PEOPLE && (people >> person & 1) == 1;
        }

        private boolean hasCoat(int coat) {
            return coat >= 0 && coat < COATS && (coats >> coat & 1) == 1;
        }

        private void welcome(int person) {
            if (!within(person, PEOPLE - 1)) {
                return;
            }
            people |= 1 << person;
            wears[person] = NOTHING;
            eaten[person] = 0;
            owes[person] = 0;
            owed[person] = 0;
            gifts[person] = 0;
            choices[person] = 0;
        }

        private void depart(int person) {
            if (!hasPerson(person)) {
                return;
            }
            for (int c = 0; c < COATS; c++) {
                if (hasCoat(c) && owners[c] == person) {
                    undress(c);
                    coats &= ~(1 << c);
                }
            }
            wears[person] = NOTHING;
            people &= ~(1 << person);
        }

        private void bring(int coat, int stitchesNow, int owner) {
            if (!within(coat, COATS - 1)) {
                return;
            }
            undress(coat);
            coats |= 1 << coat;
            stitches[coat] = stitchesNow;
            owners[coat] = owner;
            fees[coat] = 0;
            mothTenths[coat] = 0;
            halves[coat] = 0;
        }

        /** Whoever wears that coat wears nothing then. */
        private void undress(int coat) {
            for (int p = 0; p < PEOPLE; p++) {
                if (wears[p] == coat) {
                    wears[p] = NOTHING;
                }
            }
        }

        private int[] trait(int what) {
            if (what == 0) {
                return fees;
            }
            return what == 1 ? mothTenths : halves;
        }

        /** Who is not there wears nothing, so that only people who are there are found. */
        private int wearers(int coat) {
            int set = 0;
            for (int p = 0; p < PEOPLE; p++) {
                if (wears[p] == coat) {
                    set |= 1 << p;
                }
            }
            return set;
        }

        private boolean wornByOther(int coat, int person) {
            return (wearers(coat) & ~(1 << person)) != 0;
        }

        private boolean canHire(int person, int coat) {
            if (!hasPerson(person) || !hasCoat(coat)) {
                return false;
            }
            return wears[person] == coat || !wornByOther(coat, person);
        }

        private int worthOf(int coat) {
            if (coat < 0 || coat >= COATS) {
                return 0;
            }
            int capped = Math.min(stitches[coat], limit);
            return halves[coat] == 1 ? capped / 2 : capped;
        }

        private int whyNotLend(int from, int to, int coat) {
            if (!hasPerson(from) || !hasPerson(to) || from == to) {
                return 1;
            }
            if (wears[from] != coat) {
                return 2;
            }
            return wears[to] == NOTHING ? 0 : 3;
        }

        private int whyNotPutOn(int person, int coat) {
            if (!hasPerson(person)) {
                return 1;
            }
            if (wears[person] != NOTHING) {
                return 3;
            }
            if (!hasCoat(coat) || owners[coat] != person) {
                return 4;
            }
            return Integer.bitCount(wearers(coat)) < 1 + halves[coat] ? 0 : 5;
        }

        private int whyNotTakeOff(int person) {
            if (!hasPerson(person)) {
                return 1;
            }
            return wears[person] == NOTHING ? 2 : 0;
        }

        private int lend(int from, int to, int coat) {
            int why = whyNotLend(from, to, coat);
            if (why == 0) {
                wears[from] = NOTHING;
                wears[to] = coat;
            }
            return why;
        }

        private int putOn(int person, int coat) {
            int why = whyNotPutOn(person, coat);
            if (why == 0) {
                wears[person] = coat;
            }
            return why;
        }

        private int takeOff(int person) {
            int why = whyNotTakeOff(person);
            if (why == 0) {
                wears[person] = NOTHING;
            }
            return why;
        }

        /** As years have it: who wears something takes it off, who does not may put on that coat. */
        private void change(int person, int coat) {
            if (takeOff(person) != 0) {
                putOn(person, coat);
            }
        }

        private void dine(Table table) {
            table.lay(this);
            int many = Integer.bitCount(people);
            for (int p = 0; p < PEOPLE; p++) {
                if (hasPerson(p)) {
                    eat(p, many - table.seatOf(p));
                }
            }
            int worn = wornCoats();
            for (int c = 0; c < COATS; c++) {
                if ((worn >> c & 1) == 1 && stitches[c] > 0) {
                    stitches[c]--;
                }
            }
        }

        private void eat(int person, int portions) {
            if (!hasPerson(person)) {
                return;
            }
            eaten[person] += portions;
            int coat = wears[person];
            if (hasCoat(coat) && owners[coat] != person && hasPerson(owners[coat])) {
                owes[person] += portions / 2;
                owed[owners[coat]] += portions / 2;
            }
        }

        private void fast() {
            for (int p = 0; p < PEOPLE; p++) {
                if (hasPerson(p)) {
                    eaten[p]++;
                }
            }
        }

        private int wornCoats() {
            int set = 0;
            for (int c = 0; c < COATS; c++) {
                if (hasCoat(c) && wearers(c) != 0) {
                    set |= 1 << c;
                }
            }
            return set;
        }

        private void loseCoats(int set) {
            for (int c = 0; c < COATS; c++) {
                if ((set >> c & 1) == 1) {
                    undress(c);
                }
            }
        }

        /** In how many of all cases of tenths just these of the worn coats are eaten. */
        private long chanceOf(int eatenSet, int wornSet) {
            long cases = 1;
            for (int c = 0; c < COATS; c++) {
                if ((wornSet >> c & 1) == 1) {
                    cases *= (eatenSet >> c & 1) == 1 ? mothTenths[c] : TENTHS - mothTenths[c];
                }
            }
            return cases;
        }

        private boolean isLeague(int set) {
            return (set & ~people) == 0;
        }

        private int worthOfLeague(int set) {
            int sum = 0;
            int left = 0;
            for (int c = 0; c < COATS; c++) {
                if (hasCoat(c) && (set >> owners[c] & 1) == 1) {
                    left |= 1 << c;
                }
            }
            for (int n = 0; n < Integer.bitCount(set) && n < PEOPLE; n++) {
                int best = greatestOf(left);
                if (hasCoat(best)) {
                    sum += stitches[best];
                    left &= ~(1 << best);
                }
            }
            return sum;
        }

        private int greatestOf(int coatSet) {
            int best = NONE;
            int most = -1;
            for (int c = 0; c < COATS; c++) {
                if ((coatSet >> c & 1) == 1 && stitches[c] > most) {
                    best = c;
                    most = stitches[c];
                }
            }
            return best;
        }

        private int giftsOfLeague(int set) {
            int sum = 0;
            for (int p = 0; p < PEOPLE; p++) {
                if ((set >> p & 1) == 1) {
                    sum += gifts[p];
                }
            }
            return sum;
        }

        private boolean addSight(int person, int seat) {
            if (!within(sights, MOST_SIGHTS - 1)) {
                return false;
            }
            sightPeople[sights] = person;
            sightSeats[sights] = seat;
            sights++;
            return true;
        }

        private int allOwed() {
            int sum = 0;
            for (int p = 0; p < PEOPLE; p++) {
                if (hasPerson(p)) {
                    sum += owes[p];
                }
            }
            return sum;
        }

        private int allStitches() {
            int sum = 0;
            for (int c = 0; c < COATS; c++) {
                if (hasCoat(c)) {
                    sum += stitches[c];
                }
            }
            return sum;
        }
    }

    /** Who sits where. Coats are priced once, so that many ways to wear them are seated fast. */
    private static final class Table {
        private final int[] prices = new int[COATS];
        private final int[] values = new int[PEOPLE];
        private final int[] seats = {NONE, NONE, NONE, NONE, NONE};

        private void lay(Town town) {
            for (int c = 0; c < COATS; c++) {
                prices[c] = town.worthOf(c);
            }
            sit(town);
        }

        /** Seats a town whose coats are worth what they were when the table was laid. */
        private void sit(Town town) {
            for (int p = 0; p < PEOPLE; p++) {
                boolean there = town.hasPerson(p);
                seats[p] = there ? 0 : NONE;
                values[p] = there ? priceOf(town.wears[p]) : 0;
            }
            for (int p = 0; p < PEOPLE; p++) {
                for (int q = p + 1; q < PEOPLE; q++) {
                    if (seats[p] != NONE && seats[q] != NONE) {
                        seats[values[q] > values[p] ? p : q]++;
                    }
                }
            }
        }

        private int priceOf(int coat) {
            return coat >= 0 && coat < COATS ? prices[coat] : 0;
        }

        /** The seat of who is there; NONE of who is not. */
        private int seatOf(int person) {
            return person >= 0 && person < PEOPLE ? seats[person] : NONE;
        }

        private boolean sightsHold(Town town) {
            for (int s = 0; s < town.sights && s < MOST_SIGHTS; s++) {
                if (seatOf(town.sightPeople[s]) != town.sightSeats[s]) {
                    return false;
                }
            }
            return true;
        }

        private int winner(Town town) {
            int winner = 0;
            int most = -1;
            for (int choice = 0; choice < CHOICES; choice++) {
                int votes = 0;
                for (int p = 0; p < PEOPLE; p++) {
                    if (town.hasPerson(p) && town.choices[p] == choice) {
                        votes += values[p];
                    }
                }
                if (votes > most) {
                    winner = choice;
                    most = votes;
                }
            }
            return winner;
        }
    }

    /** The text of a feast. */
    private static final class Pad {
        private final int[] signs = new int[MOST_SIGNS];
        private int count;

        private boolean add(int sign) {
            if (!within(count, MOST_SIGNS - 1)) {
                return false;
            }
            signs[count] = sign;
            count++;
            return true;
        }

        private int clear() {
            int old = count;
            count = 0;
            return old;
        }

        /** The sign there; 0, which stands for nothing, behind the end. */
        private int signAt(int place) {
            return within(place, MOST_SIGNS - 1) && place < count ? signs[place] : 0;
        }

        private int firstFault() {
            int place = 0;
            for (int n = 0; n < MOST_SIGNS && place < count; n++) {
                int length = eventLength(place);
                if (length <= 0) {
                    return place - length;
                }
                place += length;
            }
            return NONE;
        }

        /** How many signs the event has that begins there; if it is none, less how many of them are good. */
        private int eventLength(int place) {
            int first = signAt(place);
            if (first == '.' || first == '*') {
                return 1;
            }
            if (!isPersonSign(first)) {
                return 0;
            }
            int second = signAt(place + 1);
            if (second == '-' || isCoatSign(second)) {
                return 2;
            }
            if (!isPersonSign(second)) {
                return -1;
            }
            return isCoatSign(signAt(place + 2)) ? 3 : -2;
        }

        private static boolean isPersonSign(int sign) {
            return sign >= 'A' && sign <= 'E';
        }

        private static boolean isCoatSign(int sign) {
            return sign >= 'a' && sign <= 'e';
        }
    }

    /** Holds the feast of a pad without fault in a town, up to the first event that can not be. */
    private static final class Feast {
        private final Table table;
        private int events;
        private int why;

        private Feast(Table table) {
            this.table = table;
        }

        private void hold(Town town, Pad pad) {
            events = 0;
            why = 0;
            int place = 0;
            for (int n = 0; n < MOST_SIGNS && place < pad.count; n++) {
                int length = pad.eventLength(place);
                if (pad.signAt(place) == '.') {
                    town.dine(table);
                } else if (pad.signAt(place) == '*') {
                    town.fast();
                } else {
                    why = step(town, pad, place, length);
                }
                if (why != 0 || length <= 0) {
                    return;
                }
                events++;
                place += length;
            }
        }

        /** Lending, putting on, taking off: why it can not be, or 0, and it is so then. */
        private static int step(Town town, Pad pad, int place, int length) {
            int person = pad.signAt(place) - 'A';
            int last = pad.signAt(place + length - 1);
            if (length == 3) {
                return town.lend(person, pad.signAt(place + 1) - 'A', last - 'a');
            }
            return last == '-' ? town.takeOff(person) : town.putOn(person, last - 'a');
        }
    }

    /** Goes through all ways to wear, from the one in which all are naked. */
    private static final class Ways {
        private final Table table;
        private final Town dressed = new Town();
        private final int[] room = new int[COATS];
        private final int[] rows = new int[ROW_WORDS];
        private boolean more;

        private Ways(Table table) {
            this.table = table;
        }

        private void begin(Town town) {
            dressed.become(town);
            for (int p = 0; p < PEOPLE; p++) {
                dressed.wears[p] = NOTHING;
            }
            for (int c = 0; c < COATS; c++) {
                room[c] = dressed.hasCoat(c) ? 1 + dressed.halves[c] : 0;
            }
            table.lay(dressed);
            more = true;
        }

        private void goOn() {
            for (int p = PEOPLE - 1; p >= 0; p--) {
                if (dressed.hasPerson(p) && changeCoat(p)) {
                    return;
                }
            }
            more = false;
        }

        /** He wears the next coat that has room; naked again, when there is no further one. */
        private boolean changeCoat(int person) {
            int old = dressed.wears[person];
            if (within(old, COATS - 1)) {
                room[old]++;
            }
            for (int c = old < 0 ? 0 : old + 1; c < COATS; c++) {
                if (room[c] > 0) {
                    room[c]--;
                    dressed.wears[person] = c;
                    return true;
                }
            }
            dressed.wears[person] = NOTHING;
            return false;
        }

        private int seatOf(int person) {
            table.sit(dressed);
            return table.seatOf(person);
        }

        private boolean sightsHold() {
            table.sit(dressed);
            return table.sightsHold(dressed);
        }

        private int winner() {
            table.sit(dressed);
            return table.winner(dressed);
        }

        private int wearersOf(int coat) {
            int set = dressed.wearers(coat);
            return set == 0 ? BY_NOBODY : set;
        }

        private int countRows(Town town) {
            for (int w = 0; w < ROW_WORDS; w++) {
                rows[w] = 0;
            }
            int many = 0;
            begin(town);
            for (int n = 0; n < MOST_WAYS && more; n++) {
                int row = rowNumber();
                int word = row / 32;
                int bit = 1 << row % 32;
                if (within(word, ROW_WORDS - 1) && (rows[word] & bit) == 0) {
                    rows[word] |= bit;
                    many++;
                }
                goOn();
            }
            return many;
        }

        private int rowNumber() {
            table.sit(dressed);
            int row = 0;
            for (int p = 0; p < PEOPLE; p++) {
                if (dressed.hasPerson(p)) {
                    row += table.seatOf(p) * FIVES[p];
                }
            }
            return row;
        }
    }

    /**
     * The fewest steps to a seat. What all wear is one number of base six; sets of such numbers
     * are rows of bits, so that a search needs little room.
     */
    private static final class Steps {
        private final Table table;
        private final Town moved = new Town();
        private final int[] known = new int[WAY_WORDS];
        private final int[] newest = new int[WAY_WORDS];
        private final int[] following = new int[WAY_WORDS];

        private Steps(Table table) {
            this.table = table;
        }

        /** By how many steps person sits beside other, or, if other is NOBODY, no farther than s. */
        private int fewest(Town town, int person, int other, int s) {
            moved.become(town);
            table.lay(moved);
            for (int w = 0; w < WAY_WORDS; w++) {
                known[w] = 0;
                newest[w] = 0;
                following[w] = 0;
            }
            reach(wayNumber());
            for (int n = 0; n <= MOST_STEPS; n++) {
                takeFollowing();
                if (anyFits(person, other, s)) {
                    return n;
                }
                if (n < MOST_STEPS) {
                    stepFromAll();
                }
            }
            return NONE;
        }

        private void reach(int way) {
            int word = way / 32;
            int bit = 1 << way % 32;
            if (within(way, MOST_WAYS - 1) && within(word, WAY_WORDS - 1) && (known[word] & bit) == 0) {
                known[word] |= bit;
                following[word] |= bit;
            }
        }

        private void takeFollowing() {
            for (int w = 0; w < WAY_WORDS; w++) {
                newest[w] = following[w];
                following[w] = 0;
            }
        }

        private boolean anyFits(int person, int other, int s) {
            for (int w = 0; w < WAY_WORDS; w++) {
                for (int b = 0; b < 32 && newest[w] != 0; b++) {
                    if ((newest[w] >> b & 1) == 1 && fits(32 * w + b, person, other, s)) {
                        return true;
                    }
                }
            }
            return false;
        }

        private boolean fits(int way, int person, int other, int s) {
            dress(way);
            table.sit(moved);
            int seat = table.seatOf(person);
            if (other == NOBODY) {
                return seat <= s;
            }
            return Math.abs(seat - table.seatOf(other)) == 1;
        }

        private void stepFromAll() {
            for (int w = 0; w < WAY_WORDS; w++) {
                for (int b = 0; b < 32 && newest[w] != 0; b++) {
                    if ((newest[w] >> b & 1) == 1) {
                        stepFrom(32 * w + b);
                    }
                }
            }
        }

        private void stepFrom(int way) {
            dress(way);
            for (int p = 0; p < PEOPLE; p++) {
                if (moved.hasPerson(p)) {
                    stepsOf(p, way);
                }
            }
        }

        private void stepsOf(int person, int way) {
            if (person < 0 || person >= PEOPLE) {
                return;
            }
            int coat = moved.wears[person];
            int naked = way - (1 + coat) * SIXES[person];
            if (moved.whyNotTakeOff(person) == 0) {
                reach(naked);
            }
            for (int c = 0; c < COATS; c++) {
                if (moved.whyNotPutOn(person, c) == 0) {
                    reach(naked + (1 + c) * SIXES[person]);
                }
            }
            for (int q = 0; q < PEOPLE; q++) {
                if (coat != NOTHING && moved.whyNotLend(person, q, coat) == 0) {
                    reach(naked + (1 + coat) * SIXES[q]);
                }
            }
        }

        private int wayNumber() {
            int way = 0;
            for (int p = 0; p < PEOPLE; p++) {
                way += (1 + moved.wears[p]) * SIXES[p];
            }
            return way;
        }

        private void dress(int way) {
            int rest = way;
            for (int p = 0; p < PEOPLE; p++) {
                moved.wears[p] = rest % 6 - 1;
                rest /= 6;
            }
        }
    }
}
