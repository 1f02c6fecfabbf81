/** Each promise of the document: ordinary calls, the edges that it names, each refusal. Answers told by hand. */
public final class PromisesTest {
    private static final int NONE = -6, UNKNOWN = -1, OUTSIDE = -2, STATE = -3, FULL = -4, NO = -5;
    private static final long LOST = -1000000000000000000L;
    private static final int[] NOT_FIVE = {-1, 5, -2, Integer.MIN_VALUE, Integer.MAX_VALUE};
    private static int wrong = 0;
    private static String promise = "";

    private static void due(String call, long got, long want) {
        if (got != want) {
            wrong++;
            System.out.println(promise + ": " + call + " answered " + got + ", due is " + want);
        }
    }

    /** PEOPLE 0 to n - 1. */
    private static CoatDinner people(int n) {
        CoatDinner x = new CoatDinner();
        for (int p = 0; p < n; p++) {
            due("person", x.person(p), p + 1);
        }
        return x;
    }

    /** A, B, C; a with 10 STITCHES of A, b with 6 of B. */
    private static CoatDinner three() {
        CoatDinner x = people(3);
        due("coat", x.coat(0, 10, 0), 1);
        due("coat", x.coat(1, 6, 1), 2);
        return x;
    }

    private static CoatDinner say(CoatDinner x, String text) {
        x.wipe();
        for (int i = 0; i < text.length(); i++) {
            due("say", x.say(text.charAt(i)), i + 1);
        }
        return x;
    }

    private static void feast(CoatDinner x, String text, int events) {
        say(x, text);
        due("done() of " + text, x.done(), events);
    }

    private static void judged(CoatDinner x, String text, int event, int why) {
        say(x, text);
        due("judge(0) of " + text, x.judge(0), event);
        due("judge(1) of " + text, x.judge(1), why);
    }

    private static void newObject() {
        CoatDinner x = new CoatDinner();
        int[] first = {0, 0, 0, 99, 0};
        for (int i = 0; i < 5; i++) {
            due("told(" + i + ")", x.told(i), first[i]);
            due("at", x.at(i), NONE);
            due("state", x.state(i, 0), UNKNOWN);
            due("told coat", x.told(10 * (1 + i)), OUTSIDE);
            due("told person", x.told(100 * (1 + i)), OUTSIDE);
        }
        due("restore(0)", x.restore(0), STATE);
        due("restore(1)", x.restore(1), STATE);
        due("wipe()", x.wipe(), 0);
        due("forget()", x.forget(), 0);
    }

    private static void person() {
        CoatDinner x = new CoatDinner();
        for (int p : NOT_FIVE) {
            due("person(" + p + ")", x.person(p), UNKNOWN);
        }
        due("person(4)", x.person(4), 1);
        due("person(0)", x.person(0), 2);
        due("person(4)", x.person(4), STATE);
        due("told(1)", x.told(1), 17);
        due("coat(0, 9, 0)", x.coat(0, 9, 0), 1);
        feast(x, "AaAEa..", 4);
        due("eaten", x.state(4, 1), 4);
        due("owes", x.state(4, 2), 2);
        due("owed", x.state(0, 3), 2);
        due("leave(4)", x.leave(4), 1);
        due("person(4)", x.person(4), 2);
        due("wears nothing", x.state(4, 0), NONE);
        due("has eaten nothing", x.state(4, 1), 0);
        due("owes nothing", x.state(4, 2), 0);
        due("what is owed to others stays", x.state(0, 3), 2);
        x.give(0, 0, 5);
        x.give(0, 1, 2);
        due("leave(0)", x.leave(0), 1);
        due("person(0)", x.person(0), 2);
        due("nothing is owed to it", x.state(0, 3), 0);
        due("its GIFT is as at first", x.told(100), 0);
        due("whom it is for is as at first", x.told(101), 0);
    }

    private static void leave() {
        CoatDinner x = three();
        for (int p : NOT_FIVE) {
            due("leave(" + p + ")", x.leave(p), UNKNOWN);
        }
        due("leave(3)", x.leave(3), UNKNOWN);
        feast(x, "AaACaBbBAb", 4);
        due("leave(1)", x.leave(1), 2);
        due("its coat is gone", x.told(2), 1);
        due("who wore it wears nothing", x.state(0, 0), NONE);
        due("the other is worn", x.told(15), 4);
        due("leave(2)", x.leave(2), 1);
        due("what it wore is left", x.told(15), 0);
        due("COATS", x.told(2), 1);
        due("leave(2)", x.leave(2), UNKNOWN);
        due("leave(0)", x.leave(0), 0);
        due("COATS", x.told(2), 0);
        due("PEOPLE", x.told(1), 0);
        due("person(0)", x.person(0), 1);
        due("no COAT comes back", x.told(2), 0);
    }

    private static void coat() {
        CoatDinner x = people(2);
        for (int c : NOT_FIVE) {
            due("coat", x.coat(c, 1, 0), UNKNOWN);
            due("owner", x.coat(0, 1, c), UNKNOWN);
            due("both wrong, and the STITCHES", x.coat(c, 100, 0), UNKNOWN);
        }
        due("owner who is not there", x.coat(0, 100, 2), UNKNOWN);
        for (int stitches : new int[] {-1, 100, Integer.MIN_VALUE, Integer.MAX_VALUE}) {
            due("stitches", x.coat(0, stitches, 0), OUTSIDE);
        }
        due("COATS", x.told(2), 0);
        due("coat(4, 99, 1)", x.coat(4, 99, 1), 1);
        due("coat(0, 0, 0)", x.coat(0, 0, 0), 2);
        due("told(2)", x.told(2), 17);
        x.set(4, 0, 3);
        x.set(4, 1, 4);
        x.set(4, 2, 1);
        feast(x, "BeBAeBe", 3);
        due("two wear it", x.told(55), 3);
        due("anew", x.coat(4, 50, 0), 2);
        int[] anew = {50, 0, 0, 0, 0, 0};
        for (int i = 0; i < 6; i++) {
            due("told(" + (50 + i) + ")", x.told(50 + i), anew[i]);
        }
        due("A wears nothing", x.state(0, 0), NONE);
        due("B wears nothing", x.state(1, 0), NONE);
    }

    private static void set() {
        CoatDinner x = three();
        int[] most = {99, 10, 1};
        for (int what = 0; what < 3; what++) {
            due("not there", x.set(2, what, 0), UNKNOWN);
            due("not there, and v", x.set(2, what, 100), UNKNOWN);
            due("v", x.set(0, what, -1), OUTSIDE);
            due("v", x.set(0, what, most[what] + 1), OUTSIDE);
            due("v", x.set(0, what, Integer.MAX_VALUE), OUTSIDE);
            due("most", x.set(0, what, most[what]), 0);
            due("told", x.told(12 + what), most[what]);
            due("the other COAT", x.told(22 + what), 0);
            due("none", x.set(0, what, 0), most[what]);
        }
        due("what", x.set(0, 3, 0), OUTSIDE);
        due("what", x.set(0, -1, 0), OUTSIDE);
        for (int c : NOT_FIVE) {
            due("coat", x.set(c, 0, 0), UNKNOWN);
        }
        x.set(0, 2, 1);
        feast(x, "AaABaAa", 3);
        due("two wear it", x.set(0, 2, 0), STATE);
        due("HALVES", x.told(14), 1);
        due("as it is", x.set(0, 2, 1), 1);
        feast(x, "B-", 1);
        due("one wears it", x.set(0, 2, 0), 1);
    }

    private static void cap() {
        CoatDinner x = three();
        for (int v : new int[] {0, 100, -1, Integer.MIN_VALUE, Integer.MAX_VALUE}) {
            due("cap(" + v + ")", x.cap(v), OUTSIDE);
        }
        due("cap(1)", x.cap(1), 99);
        due("cap(99)", x.cap(99), 1);
        feast(x, "AaACaBb", 3);
        due("at(0)", x.at(0), 2);
        due("cap(6)", x.cap(6), 99);
        due("at(0), who is less", x.at(0), 1);
        due("cap(7)", x.cap(7), 6);
        due("at(0)", x.at(0), 2);
        x.set(0, 2, 1);
        due("half of 7, cut, is less than 6", x.at(0), 1);
        x.cap(99);
        x.coat(1, 5, 1);
        feast(x, "Bb", 1);
        due("half of 10 is 5: the least first", x.at(0), 1);
        x.coat(1, 4, 1);
        feast(x, "Bb", 1);
        due("half of 10 is more than 4, worn alone too", x.at(0), 2);
        due("told(3)", x.told(3), 99);
    }

    private static void give() {
        CoatDinner x = people(2);
        for (int p : NOT_FIVE) {
            due("give", x.give(p, 0, 0), UNKNOWN);
        }
        due("not there", x.give(2, 0, 1000), UNKNOWN);
        due("what", x.give(0, 2, 0), OUTSIDE);
        due("what", x.give(0, -1, 0), OUTSIDE);
        due("gift", x.give(0, 0, 1000), OUTSIDE);
        due("gift", x.give(0, 0, -1), OUTSIDE);
        due("for", x.give(0, 1, 3), OUTSIDE);
        due("for", x.give(0, 1, -1), OUTSIDE);
        due("gift", x.give(0, 0, 999), 0);
        due("gift", x.give(0, 0, 5), 999);
        due("for", x.give(1, 1, 2), 0);
        due("for", x.give(1, 1, 1), 2);
        due("told(100)", x.told(100), 5);
        due("told(101)", x.told(101), 0);
        due("told(200)", x.told(200), 0);
        due("told(201)", x.told(201), 1);
    }

    private static void sayAndWipe() {
        CoatDinner x = new CoatDinner();
        for (int sign : new int[] {32, 127, 0, -1, Integer.MIN_VALUE, Integer.MAX_VALUE}) {
            due("say(" + sign + ")", x.say(sign), OUTSIDE);
        }
        for (int n = 1; n <= 60; n++) {
            due("say", x.say(n % 2 == 0 ? 33 : 126), n);
        }
        due("say", x.say(65), FULL);
        due("say(32)", x.say(32), OUTSIDE);
        due("told(0)", x.told(0), 60);
        due("wipe()", x.wipe(), 60);
        due("wipe()", x.wipe(), 0);
        due("say", x.say(65), 1);
    }

    private static void fault() {
        CoatDinner x = new CoatDinner();
        String[] good = {"", ".", "*", "A-", "Ee", "EEe", "ABa", "A-B-.*Aa", ".ABe*"};
        for (String text : good) {
            due("fault() of " + text, say(x, text).fault(), NONE);
        }
        String[] bad = {"a", "F", "-", "A", "AB", "A.", "A*", "Af", "AB-", "ABC", "AB.", "ABf", "..Z", "AaB", "A-a",
            "ABab", ".A!", "AA", "A`", "A@", "@"};
        int[] place = {0, 0, 0, 1, 2, 1, 1, 1, 2, 2, 2, 2, 2, 3, 2, 3, 2, 2, 1, 1, 0};
        for (int i = 0; i < bad.length; i++) {
            due("fault() of " + bad[i], say(x, bad[i]).fault(), place[i]);
        }
        say(x, "....................A-.................................ABaA");
        due("60 signs", x.told(0), 59);
        due("fault()", x.fault(), 59);
        x.say('a');
        due("fault()", x.fault(), NONE);
        say(x, ".".repeat(59));
        x.say('!');
        due("fault() in the last place", x.fault(), 59);
    }

    private static void judge() {
        CoatDinner x = three();
        due("judge(2)", x.judge(2), OUTSIDE);
        due("judge(-1)", x.judge(-1), OUTSIDE);
        say(x, "A");
        due("OUTSIDE first", x.judge(2), OUTSIDE);
        due("judge(0)", x.judge(0), NO);
        due("judge(1)", x.judge(1), NO);
        judged(x, "", NONE, NONE);
        judged(x, "AaBb.*A-B-", NONE, NONE);
        judged(x, "D-", 0, 1);
        judged(x, ".Da", 1, 1);
        judged(x, "ADa", 0, 1);
        judged(x, "DAa", 0, 1);
        judged(x, "AaAAa", 1, 1);
        judged(x, "A-", 0, 2);
        judged(x, "ABa", 0, 2);
        judged(x, "AaBbABb", 2, 2);
        judged(x, "AaABaA-", 2, 2);
        judged(x, "AaBbABa", 2, 3);
        judged(x, "AaAa", 1, 3);
        judged(x, "AaAb", 1, 3);
        judged(x, "Ab", 0, 4);
        judged(x, "..Ac", 2, 4);
        judged(x, "AaACaCBaBb", 3, 3);
        judged(x, "AaACaAa", 2, 5);
        judged(x, "AaACaCBaBAa", NONE, NONE);
        due("nothing is DONE", x.state(0, 0), NONE);
        x.set(0, 2, 1);
        judged(x, "AaACaAa", NONE, NONE);
        judged(x, "AaACaAaABaAa", 4, 5);
        judged(x, "AaACaAaABa", NONE, NONE);
        x.person(3);
        judged(x, "D-", 0, 2);
    }

    private static void done() {
        CoatDinner x = three();
        due("of nothing", x.done(), 0);
        say(x, "AaB");
        due("a FAULT", x.done(), NO);
        due("signs stay", x.told(0), 3);
        say(x, "Aa.A-A-");
        due("can not be", x.done(), NO);
        due("signs stay", x.told(0), 7);
        due("nothing is DONE", x.state(0, 1), 0);
        due("no STITCH went", x.told(10), 10);
        feast(x, "AaACa.*", 4);
        due("empty then", x.told(0), 0);
        due("C wears a", x.state(2, 0), 0);
        due("C ate", x.state(2, 1), 4);
        due("STITCHES", x.told(10), 9);
        feast(x, ".".repeat(60), 60);
        due("60 COURSES", x.state(2, 1), 4 + 60 + 9 * 2);
        CoatDinner y = people(1);
        y.coat(0, 1, 0);
        feast(y, "Aa...", 4);
        due("0 at least", y.told(10), 0);
    }

    private static void state() {
        CoatDinner x = people(5);
        x.coat(0, 10, 4);
        x.coat(1, 8, 4);
        x.coat(2, 0, 0);
        due("UNKNOWN", new CoatDinner().state(0, 9), UNKNOWN);
        for (int p : NOT_FIVE) {
            due("state", x.state(p, 0), UNKNOWN);
            due("what", x.state(0, p), OUTSIDE);
        }
        feast(x, "EaEDaEbECb.", 5);
        // D, C, A, B, E eat 5, 4, 3, 2, 1.
        int[][] want = {{NONE, 3, 0, 0, 2}, {NONE, 2, 0, 0, 3}, {1, 4, 2, 0, 1}, {0, 5, 2, 0, 0}, {NONE, 1, 0, 4, 4}};
        for (int p = 0; p < 5; p++) {
            for (int what = 0; what < 5; what++) {
                due("state(" + p + ", " + what + ")", x.state(p, what), want[p][what]);
            }
        }
        feast(x, "*", 1);
        due("a fast day: eaten", x.state(3, 1), 6);
        due("a fast day: owes", x.state(3, 2), 2);
        due("a fast day: STITCHES", x.told(10), 9);
        feast(x, "DEa.", 2);
        due("one's own: owes nothing", x.state(4, 2), 0);
        due("C owes 4 / 2 more", x.state(2, 2), 4);
        due("E is owed", x.state(4, 3), 6);
    }

    private static void behind() {
        CoatDinner x = three();
        for (int p : NOT_FIVE) {
            due("behind", x.behind(p, 0), UNKNOWN);
            due("what", x.behind(0, p), OUTSIDE);
        }
        say(x, "A");
        due("UNKNOWN first", x.behind(3, 9), UNKNOWN);
        due("OUTSIDE then", x.behind(0, 5), OUTSIDE);
        due("NO", x.behind(0, 0), NO);
        say(x, "A-");
        due("NO", x.behind(0, 0), NO);
        say(x, "AaACa..");
        int[] c = {0, 6, 2, 0, 0};
        int[] a = {NONE, 4, 0, 2, 1};
        for (int what = 0; what < 5; what++) {
            due("behind(2, " + what + ")", x.behind(2, what), c[what]);
            due("behind(0, " + what + ")", x.behind(0, what), a[what]);
        }
        due("not DONE: wears", x.state(2, 0), NONE);
        due("not DONE: eaten", x.state(2, 1), 0);
        due("not DONE: STITCHES", x.told(10), 10);
        due("not DONE: signs", x.told(0), 7);
        say(x, "");
        due("of nothing", x.behind(1, 4), 1);
    }

    private static void at() {
        CoatDinner x = people(5);
        x.leave(1);
        x.coat(0, 3, 4);
        feast(x, "Ea", 1);
        int[] row = {4, 0, 2, 3, NONE, NONE};
        for (int s = 0; s < 6; s++) {
            due("at(" + s + ")", x.at(s), row[s]);
        }
        due("at(-1)", x.at(-1), NONE);
        due("at(-6)", x.at(-6), NONE);
        due("at(MIN)", x.at(Integer.MIN_VALUE), NONE);
        due("at(MAX)", x.at(Integer.MAX_VALUE), NONE);
    }

    private static void beside() {
        CoatDinner x = three();
        for (int p : NOT_FIVE) {
            due("beside", x.beside(p, 0), UNKNOWN);
            due("beside", x.beside(0, p), UNKNOWN);
        }
        due("not there", x.beside(0, 3), UNKNOWN);
        due("one", x.beside(0, 0), UNKNOWN);
        due("beside(0, 1)", x.beside(0, 1), 0);
        due("beside(1, 0)", x.beside(1, 0), 0);
        due("B puts on b", x.beside(0, 2), 1);
        due("not DONE", x.state(1, 0), NONE);
        CoatDinner y = people(3);
        due("no COAT", y.beside(0, 2), NONE);
        due("no COAT", y.beside(1, 2), 0);
        CoatDinner z = people(5);
        z.coat(0, 9, 0);
        z.coat(1, 8, 0);
        due("Aa ADa", z.beside(3, 0), 2);
        due("Aa ADa Ab", z.beside(4, 0), 2);
        due("Aa AEa: E A B C D", z.beside(3, 4), 0);
        CoatDinner w = people(3);
        w.coat(0, 0, 1);
        due("COATS without STITCHES", w.beside(0, 2), NONE);
    }

    private static void head() {
        CoatDinner x = three();
        for (int p : NOT_FIVE) {
            due("head", x.head(p, 0), UNKNOWN);
            due("s", x.head(0, p), OUTSIDE);
        }
        due("UNKNOWN first", x.head(3, 5), UNKNOWN);
        due("C: Aa ACa", x.head(2, 0), 2);
        due("C: no farther than 1", x.head(2, 1), 2);
        due("as it is", x.head(2, 2), 0);
        due("as it is", x.head(2, 4), 0);
        CoatDinner none = people(2);
        due("no COAT", none.head(1, 0), NONE);
        CoatDinner y = people(5);
        for (int c = 0; c < 4; c++) {
            y.coat(c, 10, c);
        }
        y.coat(4, 0, 4);
        feast(y, "AaBbCcDdEe", 5);
        due("E- AEa B- C- D-", y.head(4, 0), 5);
        due("E- AEa B- C-", y.head(4, 1), 4);
        y.set(0, 2, 1);
        due("a has half: E- BEb C- D-", y.head(4, 0), 4);
        CoatDinner lent = three();
        feast(lent, "AaABa", 2);
        due("who has it lent lends it", lent.head(2, 0), 1);
        CoatDinner back = three();
        feast(back, "AaACaBb", 3);
        due("or gives it back", back.head(0, 0), 1);
    }

    private static void ways() {
        CoatDinner x = three();
        for (int p : new int[] {5, -2, 3, Integer.MIN_VALUE, Integer.MAX_VALUE}) {
            due("ways", x.ways(p, 0), UNKNOWN);
            due("UNKNOWN first", x.ways(p, 5), UNKNOWN);
        }
        for (int s : NOT_FIVE) {
            due("seat", x.ways(-1, s), OUTSIDE);
            due("seat", x.ways(0, s), OUTSIDE);
        }
        due("WAYS", x.ways(-1, 4), 13);
        int[][] want = {{5, 6, 2}, {4, 5, 4}, {4, 2, 7}};
        for (int p = 0; p < 3; p++) {
            for (int s = 0; s < 3; s++) {
                due("ways(" + p + ", " + s + ")", x.ways(p, s), want[p][s]);
            }
            due("ways(" + p + ", 3)", x.ways(p, 3), 0);
        }
        due("not DONE", x.state(0, 0), NONE);
        CoatDinner y = people(5);
        for (int c = 0; c < 5; c++) {
            y.coat(c, 1 + c, 0);
        }
        due("five, five", y.ways(-1, 0), 1546);
        for (int c = 0; c < 5; c++) {
            y.set(c, 2, 1);
        }
        due("five, five with HALVES", y.ways(-1, 0), 6396);
        due("nobody", new CoatDinner().ways(-1, 0), 1);
        CoatDinner one = people(1);
        one.coat(3, 5, 0);
        due("one, one", one.ways(0, 0), 2);
    }

    private static void seatings() {
        due("nobody", new CoatDinner().seatings(), 1);
        CoatDinner x = people(5);
        due("no COAT", x.seatings(), 1);
        x.coat(0, 5, 0);
        due("one COAT", x.seatings(), 5);
        x.coat(1, 0, 0);
        due("a COAT without STITCHES", x.seatings(), 5);
        x.coat(1, 4, 0);
        x.coat(2, 3, 0);
        x.coat(3, 2, 0);
        due("four COATS", x.seatings(), 120);
        due("cap(2)", x.cap(2), 99);
        due("all of one WORTH", x.seatings(), rowsOfSets());
    }

    /** Rows in which some of five, four at most, are ahead, all in their order. */
    private static int rowsOfSets() {
        java.util.Set<String> rows = new java.util.HashSet<>();
        for (int set = 0; set < 31; set++) {
            StringBuilder row = new StringBuilder();
            for (int turn = 1; turn >= 0; turn--) {
                for (int p = 0; p < 5; p++) {
                    if ((set >> p & 1) == turn) {
                        row.append(p);
                    }
                }
            }
            rows.add(row.toString());
        }
        return rows.size();
    }

    private static void decides() {
        CoatDinner x = three();
        for (int c : NOT_FIVE) {
            due("decides", x.decides(c), UNKNOWN);
        }
        due("not there", x.decides(2), UNKNOWN);
        due("naked: B and C", x.decides(0), 6);
        feast(x, "AaBb", 2);
        due("worn by A, who wears it already", x.decides(0), 0);
        x.coat(2, 8, 0);
        due("c: A 0 stays, B 1 stays, C 2 to 1", x.decides(2), 4);
        x.coat(2, 5, 0);
        due("c: A falls, B stays, C stays", x.decides(2), 1);
        x.coat(2, 0, 0);
        due("c: A falls, B stays", x.decides(2), 1);
        x.coat(2, 99, 2);
        due("c: B and C rise", x.decides(2), 6);
        x.set(0, 2, 1);
        due("a is worn by A: for nobody else, HALVES or not", x.decides(0), 0);
        due("not DONE", x.state(0, 0), 0);
    }

    private static void sewn() {
        CoatDinner x = three();
        for (int p : NOT_FIVE) {
            due("sewn", x.sewn(p, 0), UNKNOWN);
            due("s", x.sewn(0, p), OUTSIDE);
        }
        due("UNKNOWN first", x.sewn(4, 9), UNKNOWN);
        due("wears nothing, sits there already", x.sewn(0, 0), NONE);
        feast(x, "AaBb", 2);
        due("11 in all", x.sewn(1, 0), 5);
        due("none more", x.sewn(1, 1), 0);
        x.cap(10);
        due("10 at most by CAP: A is first", x.sewn(1, 0), NONE);
        x.cap(99);
        x.coat(0, 99, 0);
        feast(x, "Aa", 1);
        due("99 in all: A is first", x.sewn(1, 0), NONE);
        feast(x, "A-AaACa", 3);
        due("99 in all: B is first", x.sewn(1, 0), 93);
        x.coat(0, 20, 0);
        x.set(0, 2, 1);
        feast(x, "AaACaAaB-", 4);
        due("shared, B wears nothing", x.sewn(2, 0), NONE);
        due("shared: both have more", x.sewn(2, 1), 0);
        feast(x, "Bb", 1);
        x.coat(1, 12, 1);
        feast(x, "Bb", 1);
        due("half: 26 in all for 13", x.sewn(0, 0), 4);
        due("told", x.told(10), 20);
    }

    private static void hired() {
        CoatDinner x = three();
        for (int p : NOT_FIVE) {
            due("hired", x.hired(p, 0, 0), UNKNOWN);
            due("s", x.hired(0, p, 0), OUTSIDE);
            due("what", x.hired(0, 0, p), OUTSIDE);
        }
        due("what", x.hired(0, 0, 2), OUTSIDE);
        due("UNKNOWN first", x.hired(3, 5, 2), UNKNOWN);
        x.set(0, 0, 7);
        x.set(1, 0, 7);
        due("how much", x.hired(2, 0, 0), 7);
        due("which, the least", x.hired(2, 0, 1), 0);
        x.set(1, 0, 6);
        due("how much", x.hired(2, 0, 0), 6);
        due("which", x.hired(2, 0, 1), 1);
        due("his own cost nothing", x.hired(1, 0, 0), 0);
        due("his own", x.hired(1, 0, 1), 1);
        feast(x, "Aa", 1);
        due("a is worn by A; b is not enough", x.hired(2, 0, 0), NONE);
        due("a is worn by A; b is not enough", x.hired(2, 0, 1), NONE);
        due("b is enough", x.hired(2, 1, 0), 6);
        feast(x, "ACa", 1);
        due("b is less than what he wears", x.hired(2, 0, 0), 6);
        x.set(1, 0, 8);
        due("that he wears, of another", x.hired(2, 0, 0), 7);
        due("that he wears", x.hired(2, 0, 1), 0);
        x.set(1, 0, 6);
        x.set(0, 2, 1);
        feast(x, "Aa", 1);
        due("shared, that he wears: half is 5, A is first", x.hired(2, 1, 1), 1);
        due("shared, that he wears", x.hired(2, 2, 1), 1);
        x.set(1, 0, 9);
        due("shared, that he wears", x.hired(2, 1, 0), 7);
        due("shared, that he wears", x.hired(2, 1, 1), 0);
        due("shared: not for B, whose b is 6", x.hired(1, 0, 1), 1);
        CoatDinner none = people(1);
        due("no COAT, though he sits there", none.hired(0, 0, 0), NONE);
    }

    private static void rises() {
        CoatDinner x = three();
        for (int v : new int[] {0, 100, -1, Integer.MIN_VALUE, Integer.MAX_VALUE}) {
            due("rises(" + v + ")", x.rises(v), OUTSIDE);
        }
        feast(x, "Bb", 1);
        feast(x, "AaACa", 2);
        due("rises(6): B is as good as C", x.rises(6), 2);
        due("rises(7)", x.rises(7), 0);
        due("rises(1)", x.rises(1), 2);
        due("rises(99)", x.rises(99), 0);
        due("told(3)", x.told(3), 99);
        x.cap(1);
        due("back", x.rises(99), 4);
    }

    private static void league() {
        CoatDinner x = three();
        x.coat(2, 9, 0);
        x.coat(3, 9, 0);
        x.set(0, 2, 1);
        x.cap(1);
        int[] worth = {0, 10, 6, 19, 0, 19, 6, 28};
        for (int set = 0; set < 8; set++) {
            due("league(" + set + ")", x.league(set), worth[set]);
        }
        for (int set : new int[] {8, 9, 16, 32, 64, -1, Integer.MIN_VALUE, Integer.MAX_VALUE}) {
            due("league(" + set + ")", x.league(set), OUTSIDE);
        }
    }

    private static void share() {
        CoatDinner x = three();
        for (int p : NOT_FIVE) {
            due("share", x.share(p, 0), LOST - 1);
            due("part", x.share(0, p), LOST - 2);
        }
        due("part", x.share(0, 2), LOST - 2);
        due("not there, and the part", x.share(3, 2), LOST - 1);
        x.coat(2, 9, 0);
        // v: A 10, B 6, C 0, AB 19, AC 19, BC 6, ABC 25.
        // Of six rows: A 10 10 13 19 19 19, B 6 6 9 6 6 6, C 0 0 9 0 6 6.
        long[] upper = {15, 13, 7};
        long[] lower = {1, 2, 2};
        for (int p = 0; p < 3; p++) {
            due("share(" + p + ", 0)", x.share(p, 0), upper[p]);
            due("share(" + p + ", 1)", x.share(p, 1), lower[p]);
        }
        CoatDinner none = people(1);
        due("0", none.share(0, 0), 0);
        due("1", none.share(0, 1), 1);
    }

    private static void leaves() {
        CoatDinner x = three();
        due("what", x.leaves(2), OUTSIDE);
        due("what", x.leaves(-1), OUTSIDE);
        due("B, AB, ABC, A, AC, BC", x.leaves(0), 6);
        due("the first", x.leaves(1), 1);
        x.give(0, 0, 10);
        due("B, AB, BC, ABC", x.leaves(0), 4);
        due("the first", x.leaves(1), 2);
        x.give(1, 0, 5);
        x.give(2, 0, 1);
        due("B, AB", x.leaves(0), 2);
        x.give(0, 0, 11);
        due("B", x.leaves(0), 1);
        due("B", x.leaves(1), 2);
        x.give(1, 0, 6);
        due("nobody", x.leaves(0), 0);
        due("nobody", x.leaves(1), NONE);
    }

    private static void elected() {
        CoatDinner x = three();
        due("what", x.elected(2), OUTSIDE);
        due("what", x.elected(-1), OUTSIDE);
        due("all for 0", x.elected(1), 0);
        x.give(0, 1, 2);
        x.give(1, 1, 1);
        feast(x, "Bb", 1);
        due("1", x.elected(0), 1);
        feast(x, "Aa", 1);
        due("2", x.elected(0), 2);
        x.cap(6);
        due("of several the least", x.elected(0), 1);
        due("SURE", x.elected(1), NONE);
        x.give(0, 1, 1);
        x.give(2, 1, 1);
        due("not SURE: 0 if all are naked", x.elected(1), NONE);
        due("1 with all", x.elected(0), 1);
        CoatDinner y = people(2);
        y.coat(0, 5, 0);
        y.give(1, 1, 1);
        due("not SURE", y.elected(1), NONE);
        y.coat(0, 0, 0);
        due("SURE, COATS being worth nothing", y.elected(1), 0);
        due("nobody", new CoatDinner().elected(0), 0);
        due("nobody", new CoatDinner().elected(1), 0);
    }

    private static void moths() {
        CoatDinner x = three();
        for (int p : NOT_FIVE) {
            due("moths", x.moths(p, 0, 0), LOST - 1);
            due("seat", x.moths(0, p, 0), LOST - 2);
            due("part", x.moths(0, 0, p), LOST - 2);
        }
        due("part", x.moths(0, 0, 2), LOST - 2);
        due("UNKNOWN first", x.moths(3, 5, 2), LOST - 1);
        x.set(0, 1, 5);
        x.set(1, 1, 2);
        due("nothing is worn", x.moths(0, 0, 0), 1);
        feast(x, "AaBb", 2);
        long[][] parts = {{3, 5}, {2, 5}, {0, 1}, {0, 1}};
        for (int s = 0; s < 4; s++) {
            due("moths(0, " + s + ", 0)", x.moths(0, s, 0), parts[s][0]);
            due("moths(0, " + s + ", 1)", x.moths(0, s, 1), parts[s][1]);
        }
        x.set(0, 1, 3);
        x.set(1, 1, 1);
        due("27 of 100", x.moths(1, 0, 0), 27);
        due("27 of 100", x.moths(1, 0, 1), 100);
        x.set(0, 2, 1);
        x.coat(1, 4, 1);
        feast(x, "ACaAaBb", 3);
        x.set(1, 1, 5);
        // a is worn by A and C, worth 5: all of it is eaten, or none.
        due("C in 1: a is left", x.moths(2, 1, 0), 7);
        due("C in 1: a is left", x.moths(2, 1, 1), 10);
        due("C in 2", x.moths(2, 2, 0), 3);
        due("B in 0: a is eaten, b is not", x.moths(1, 0, 0), 3);
        due("B in 0", x.moths(1, 0, 1), 20);
        due("nothing is eaten in fact", x.told(15), 5);
        x.set(0, 1, 10);
        due("all tenths", x.moths(2, 1, 0), 0);
        due("all tenths", x.moths(2, 1, 1), 1);
    }

    private static void sightsAndFit() {
        CoatDinner x = three();
        for (int p : NOT_FIVE) {
            due("seen", x.seen(p, 0), UNKNOWN);
            due("UNKNOWN first", x.seen(p, 5), UNKNOWN);
            due("seat", x.seen(0, p), OUTSIDE);
        }
        due("COAT", x.fit(2), UNKNOWN);
        due("COAT", x.fit(-2), UNKNOWN);
        due("COAT", x.fit(5), UNKNOWN);
        due("COAT", x.fit(Integer.MIN_VALUE), UNKNOWN);
        due("no SIGHTS", x.fit(-1), 13);
        due("no SIGHTS", x.fit(0), 39);
        due("seen(2, 1)", x.seen(2, 1), 1);
        due("C in b, A or B in a", x.fit(-1), 2);
        due("a", x.fit(0), 3);
        due("b", x.fit(1), 4);
        due("seen(2, 1) again", x.seen(2, 1), 2);
        due("the same", x.fit(-1), 2);
        due("seen(0, 0)", x.seen(0, 0), 3);
        due("C in b, A in a", x.fit(-1), 1);
        due("a", x.fit(0), 1);
        due("seen(4, 4), who is not there", x.seen(4, 4), 4);
        due("none", x.fit(-1), 0);
        due("none", x.fit(0), 0);
        due("told(4)", x.told(4), 4);
        due("seen", x.seen(0, 0), 5);
        due("seen", x.seen(0, 0), 6);
        due("seen", x.seen(0, 0), FULL);
        due("OUTSIDE first", x.seen(0, 5), OUTSIDE);
        due("forget()", x.forget(), 6);
        due("forget()", x.forget(), 0);
        due("fit(-1)", x.fit(-1), 13);
        due("seen(0, 2)", x.seen(0, 2), 1);
        due("A last: B and C wear both", x.fit(-1), 2);
        due("a by B or C", x.fit(0), 6);
        due("not DONE", x.state(0, 0), NONE);
        x.forget();
        x.seen(2, 0);
        due("a by C or nobody", x.fit(0), 36);
        due("b by A, B, C, nobody", x.fit(1), 39);
        due("nobody there", new CoatDinner().fit(-1), 1);
    }

    private static void year() {
        CoatDinner x = new CoatDinner();
        x.person(0);
        x.person(4);
        x.coat(4, 9, 4);
        for (int seed : new int[] {-1, 10000, Integer.MIN_VALUE, Integer.MAX_VALUE}) {
            due("seed", x.year(seed, 1, 0), OUTSIDE);
        }
        for (int m : new int[] {0, 100, -1, Integer.MIN_VALUE, Integer.MAX_VALUE}) {
            due("m", x.year(0, m, 0), OUTSIDE);
        }
        due("what", x.year(0, 1, 3), OUTSIDE);
        due("what", x.year(0, 1, -1), OUTSIDE);
        // 74: E puts on e, a COURSE; 5624: E takes it off, a fast one; 28652: C is not there, a COURSE.
        int[] portions = {1, 2, 4};
        for (int m = 1; m <= 3; m++) {
            due("year(0, " + m + ", 0)", x.year(0, m, 0), portions[m - 1]);
            due("year(0, " + m + ", 1)", x.year(0, m, 1), 0);
            due("year(0, " + m + ", 2)", x.year(0, m, 2), 8);
        }
        due("not DONE", x.state(0, 1), 0);
        due("not DONE", x.told(50), 9);
        feast(x, "Ee.", 2);
        due("portions of this YEAR alone", x.year(0, 1, 0), 2);
        CoatDinner y = people(3);
        y.leave(1);
        y.coat(0, 10, 0);
        feast(y, "AaACa.", 3);
        due("owes", y.state(2, 2), 1);
        due("of ahead, too", y.year(0, 1, 1), 2);
        due("STITCHES", y.year(0, 1, 2), 8);
        due("PERSON 0 in SEAT 1", y.year(0, 1, 0), 1);
        y.coat(1, 30, 2);
        feast(y, "C-CbCAb.", 4);
        due("A owes, too", y.state(0, 2), 1);
        due("of both", y.year(0, 1, 1), 3);
        y.leave(0);
        due("PERSON 0 is not there", y.year(9999, 99, 0), 0);
        due("no COAT", y.year(9999, 99, 2), 0);
        CoatDinner z = people(2);
        z.coat(0, 99, 0);
        due("the last seed, the longest", z.year(9999, 99, 0) > 99 ? 1 : 0, 1);
    }

    private static void images() {
        CoatDinner x = three();
        for (int n : new int[] {-1, 2, Integer.MIN_VALUE, Integer.MAX_VALUE}) {
            due("image(" + n + ")", x.image(n), OUTSIDE);
            due("restore(" + n + ")", x.restore(n), OUTSIDE);
        }
        due("restore(1)", x.restore(1), STATE);
        x.set(0, 0, 1);
        x.set(0, 1, 2);
        x.set(0, 2, 1);
        x.give(1, 0, 3);
        x.give(1, 1, 2);
        x.cap(50);
        x.seen(1, 1);
        feast(x, "AaACaBb.", 4);
        due("image(1)", x.image(1), 1);
        due("restore(0)", x.restore(0), STATE);
        say(x, "A-");
        due("image(0)", x.image(0), 1);
        String kept = allTold(x);
        x.leave(1);
        x.person(3);
        x.coat(0, 1, 3);
        x.coat(3, 1, 3);
        x.cap(9);
        x.forget();
        feast(x, "Dd..", 3);
        say(x, "ABC");
        due("restore(1)", x.restore(1), 1);
        due("as it was", allTold(x).equals(kept) ? 1 : 0, 1);
        due("all but the PAD", x.told(0), 3);
        due("all but the PAD", x.fault(), 2);
        due("fit, by the SIGHT that was", x.fit(-1) < x.ways(-1, 0) ? 1 : 0, 1);
        x.leave(0);
        due("restore(1) once more", x.restore(1), 1);
        due("as it was", allTold(x).equals(kept) ? 1 : 0, 1);
        x.leave(0);
        due("image(1) anew", x.image(1), 1);
        due("restore(0)", x.restore(0), 1);
        due("PEOPLE", x.told(1), 7);
        due("restore(1)", x.restore(1), 1);
        due("PEOPLE", x.told(1), 6);
    }

    private static String allTold(CoatDinner x) {
        StringBuilder all = new StringBuilder();
        for (int t = 1; t < 60; t++) {
            all.append(x.told(t)).append(',');
        }
        for (int p = 0; p < 5; p++) {
            all.append(x.told(100 * (1 + p))).append(',').append(x.told(100 * (1 + p) + 1)).append(',');
            for (int w = 0; w < 5; w++) {
                all.append(x.state(p, w)).append(',');
            }
        }
        return all.toString();
    }

    private static void told() {
        CoatDinner x = people(5);
        x.leave(2);
        x.coat(4, 7, 3);
        x.set(4, 0, 12);
        x.set(4, 1, 4);
        x.set(4, 2, 1);
        x.give(4, 0, 8);
        x.give(4, 1, 1);
        x.cap(77);
        x.seen(2, 2);
        feast(x, "DeDAeDe", 3);
        x.say(65);
        int[] whats = {0, 1, 2, 3, 4, 50, 51, 52, 53, 54, 55, 500, 501, 100, 101};
        int[] want = {1, 27, 16, 77, 1, 7, 3, 12, 4, 1, 9, 8, 1, 0, 0};
        for (int i = 0; i < whats.length; i++) {
            due("told(" + whats[i] + ")", x.told(whats[i]), want[i]);
        }
        int[] outside = {5, 9, 10, 15, 20, 40, 56, 59, 60, 99, 102, 199, 300, 301, 502, 600, 601, 1000, -1, -10, -100,
            Integer.MIN_VALUE, Integer.MAX_VALUE};
        for (int what : outside) {
            due("told(" + what + ")", x.told(what), OUTSIDE);
        }
    }

    private static void run(String name, Runnable test) {
        promise = name;
        test.run();
    }

    public static void main(String[] args) {
        run("1", PromisesTest::newObject);
        run("2", PromisesTest::person);
        run("3", PromisesTest::leave);
        run("4", PromisesTest::coat);
        run("5", PromisesTest::set);
        run("6", PromisesTest::cap);
        run("7", PromisesTest::give);
        run("8, 9", PromisesTest::sayAndWipe);
        run("10", PromisesTest::fault);
        run("11", PromisesTest::judge);
        run("12", PromisesTest::done);
        run("13", PromisesTest::state);
        run("14", PromisesTest::behind);
        run("15", PromisesTest::at);
        run("16", PromisesTest::beside);
        run("17", PromisesTest::head);
        run("18", PromisesTest::ways);
        run("19", PromisesTest::seatings);
        run("20", PromisesTest::decides);
        run("21", PromisesTest::sewn);
        run("22", PromisesTest::hired);
        run("23", PromisesTest::rises);
        run("24", PromisesTest::league);
        run("25", PromisesTest::share);
        run("26", PromisesTest::leaves);
        run("27", PromisesTest::elected);
        run("28", PromisesTest::moths);
        run("29, 30, 31", PromisesTest::sightsAndFit);
        run("32", PromisesTest::year);
        run("33, 34", PromisesTest::images);
        run("35", PromisesTest::told);
        System.out.println(wrong == 0 ? "all promises are as due" : wrong + " answers are not as due");
        if (wrong != 0) {
            System.exit(1);
        }
    }
}
