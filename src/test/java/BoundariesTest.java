import java.io.IOException;
import java.lang.reflect.InvocationTargetException;
import java.lang.reflect.Method;
import java.nio.file.Files;
import java.nio.file.Path;
import java.util.ArrayList;
import java.util.HashMap;
import java.util.List;
import java.util.Map;
import java.util.TreeSet;
import java.util.regex.Matcher;
import java.util.regex.Pattern;

/**
 * Each sentence of the document that names an edge (too small, too large, empty, full, a wrap-around, a refused
 * call), quoted, with a run of its own. The answers are told by hand.
 *
 * A run is a text of calls with the answers that are due, parted by ; or the end of a line, // begins a remark.
 * Beside the calls of the face there are: new() a new object; people(n) PERSONS 0 to n - 1; pad(text) wipe and say;
 * feast(text) that and done; first(text), why(text) that and judge(0), judge(1); at_fault(text) that and fault.
 * An argument !a..b stands for numbers outside a to b, @a..b for each of a to b. A call without an answer that is
 * due must not be refused. Behind each refused call all that can be asked must be as ahead of it.
 */
public final class BoundariesTest {
    private static final Path DOCUMENT = Path.of("../shared/DOC.md");
    private static final Pattern CALL = Pattern.compile("(\\w+)\\(([^)]*)\\)(?:\\s*=\\s*(\\S+))?");
    private static final Map<String, Long> NAMES = new HashMap<>();
    private static final Map<String, Method> FACE = new HashMap<>();
    private static final List<String> QUOTES = new ArrayList<>();
    private static int wrong = 0;
    private static String sentence = "";
    private static CoatDinner x = new CoatDinner();

    private static void wrong(String what) {
        wrong++;
        System.out.println("\"" + sentence + "\"\n    " + what);
    }

    private static void due(String call, long got, long want) {
        if (got != want) {
            wrong(call + " answered " + got + ", due is " + want);
        }
    }

    /** A sentence and the run that would go wrong if it were broken. */
    private static void told(String quote, String run) {
        sentence = quote;
        QUOTES.add(quote);
        x = new CoatDinner();
        for (String line : run.split("\n")) {
            int remark = line.indexOf("//");
            for (String call : (remark < 0 ? line : line.substring(0, remark)).split(";")) {
                if (!call.isBlank()) {
                    statement(call.strip());
                }
            }
        }
    }

    private static void statement(String text) {
        Matcher m = CALL.matcher(text);
        if (!m.matches()) {
            wrong("is no call: " + text);
            return;
        }
        Long want = m.group(3) == null ? null : number(m.group(3));
        String argument = m.group(2);
        switch (m.group(1)) {
            case "new": x = new CoatDinner(); break;
            case "people": addPeople(Integer.parseInt(argument)); break;
            case "pad": pad(argument); break;
            case "feast": pad(argument); call(text, "done", new int[0], want); break;
            case "first": pad(argument); call(text, "judge", new int[] {0}, want); break;
            case "why": pad(argument); call(text, "judge", new int[] {1}, want); break;
            case "at_fault": pad(argument); call(text, "fault", new int[0], want); break;
            default: calls(m.group(1), argument.isBlank() ? new String[0] : argument.split(","), new int[0], want);
        }
    }

    private static void addPeople(int n) {
        for (int p = 0; p < n; p++) {
            due("person(" + p + ")", x.person(p), p + 1);
        }
    }

    private static void pad(String text) {
        x.wipe();
        for (int i = 0; i < text.length(); i++) {
            due("say of " + text, x.say(text.charAt(i)), i + 1);
        }
    }

    /** Each call that the arguments stand for. */
    private static void calls(String name, String[] arguments, int[] ahead, Long want) {
        if (ahead.length == arguments.length) {
            call(name + java.util.Arrays.toString(ahead), name, ahead, want);
            return;
        }
        for (int value : values(arguments[ahead.length].strip())) {
            int[] longer = java.util.Arrays.copyOf(ahead, ahead.length + 1);
            longer[ahead.length] = value;
            calls(name, arguments, longer, want);
        }
    }

    private static int[] values(String argument) {
        if (argument.charAt(0) != '!' && argument.charAt(0) != '@') {
            return new int[] {(int) number(argument)};
        }
        String[] ends = argument.substring(1).split("\\.\\.");
        int from = Integer.parseInt(ends[0]);
        int to = Integer.parseInt(ends[1]);
        if (argument.charAt(0) == '@') {
            return java.util.stream.IntStream.rangeClosed(from, to).toArray();
        }
        return new int[] {from - 1, to + 1, from - 1000, to + 1000, Integer.MIN_VALUE, Integer.MAX_VALUE};
    }

    private static long number(String text) {
        long sum = 0;
        for (String part : text.split("\\+")) {
            Long named = NAMES.get(part);
            sum += named != null ? named : Long.parseLong(part);
        }
        return sum;
    }

    private static void call(String told, String name, int[] arguments, Long want) {
        boolean refused = want != null && want < 0 && want != CoatDinner.NONE;
        String ahead = refused ? all() : "";
        long got = answer(name, arguments);
        if (want == null && got < 0) {
            wrong(told + " is refused: " + got);
        }
        if (want != null) {
            due(told, got, want);
        }
        if (refused && !ahead.equals(all())) {
            wrong(told + " is refused and changes something");
        }
    }

    private static long answer(String name, int[] arguments) {
        Object[] boxed = new Object[arguments.length];
        for (int i = 0; i < boxed.length; i++) {
            boxed[i] = arguments[i];
        }
        try {
            return ((Number) FACE.get(name).invoke(x, boxed)).longValue();
        } catch (InvocationTargetException | IllegalAccessException e) {
            wrong(name + " throws " + e.getCause());
            return Long.MIN_VALUE;
        }
    }

    /** All that can be asked but images. */
    private static String all() {
        StringBuilder all = new StringBuilder();
        for (int t = 0; t < 60; t++) {
            all.append(x.told(t)).append(',');
        }
        for (int p = 0; p < 5; p++) {
            all.append(x.told(100 * (1 + p))).append(',').append(x.told(100 * (1 + p) + 1)).append(',');
            for (int w = 0; w < 5; w++) {
                all.append(x.state(p, w)).append(',').append(x.behind(p, w)).append(',');
            }
            all.append(x.fit(p)).append(',');
        }
        return all.append(x.fit(-1)).append(',').append(x.fault()).append(',').append(x.judge(0)).append(',')
            .append(x.judge(1)).toString();
    }

    // ---- terms

    private static void refusals() {
        told("Calls that are refused answer, the first of these that fits: UNKNOWN -1 (there is no such PERSON, COAT), "
            + "OUTSIDE -2 (another number is not as told), NO -5 (as told), STATE -3 (as told), FULL -4.", """
            restore(!0..1) = OUTSIDE                // ahead of STATE: none was kept
            people(2); coat(0, 9, 0) = 1; set(0, 2, 1) = 0; feast(AaABaAa) = 3
            coat(!0..4, !0..99, 0) = UNKNOWN        // ahead of OUTSIDE
            coat(1, !0..99, 2) = UNKNOWN
            set(1, !0..2, 0) = UNKNOWN
            set(1, 0, !0..99) = UNKNOWN
            set(1, 2, 0) = UNKNOWN
            set(0, 2, !0..1) = OUTSIDE              // ahead of STATE: two wear it
            set(0, 2, 0) = STATE
            give(2, !0..1, 0) = UNKNOWN
            give(2, 0, !0..999) = UNKNOWN
            state(2, !0..4) = UNKNOWN
            head(2, !0..4) = UNKNOWN
            ways(2, !0..4) = UNKNOWN
            sewn(2, !0..4) = UNKNOWN
            hired(2, !0..4, !0..1) = UNKNOWN
            share(2, !0..1) = LOST+UNKNOWN
            moths(2, !0..4, !0..1) = LOST+UNKNOWN
            seen(!0..4, !0..4) = UNKNOWN
            pad(A)
            judge(!0..1) = OUTSIDE                  // ahead of NO: a FAULT
            judge(@0..1) = NO
            behind(2, !0..4) = UNKNOWN
            behind(2, 0) = UNKNOWN
            behind(0, !0..4) = OUTSIDE
            behind(0, @0..4) = NO
            pad(A-A-)
            behind(2, 0) = UNKNOWN                  // an EVENT that can not be
            behind(0, !0..4) = OUTSIDE
            behind(0, @0..4) = NO
            seen(0, @0..4); seen(0, 0) = 6
            seen(!0..4, 0) = UNKNOWN                // ahead of FULL
            seen(0, !0..4) = OUTSIDE
            seen(0, 0) = FULL
            pad(............................................................)
            say(!33..126) = OUTSIDE                 // ahead of FULL
            say(@33..126) = FULL
            """);
        told("They change nothing.", """
            image(0) = 1; people(3); coat(0, 9, 0) = 1; set(0, @0..2, 1) = 0; cap(7) = 99; give(1, 0, 5); give(1, 1, 2)
            feast(AaABaAa.) = 4; seen(1, 1) = 1; image(1) = 1; pad(A-A-)
            person(@0..2) = STATE
            person(!0..4) = UNKNOWN
            leave(@3..4) = UNKNOWN
            coat(0, !0..99, 0) = OUTSIDE
            coat(0, 5, @3..4) = UNKNOWN
            set(0, @0..2, 100) = OUTSIDE
            set(0, 2, 0) = STATE
            cap(!1..99) = OUTSIDE
            give(0, @0..1, 1000) = OUTSIDE
            say(!33..126) = OUTSIDE
            done() = NO
            image(!0..1) = OUTSIDE
            restore(!0..1) = OUTSIDE
            restore(1) = 1
            told(15) = 3; told(10) = 8; told(4) = 1; told(0) = 4
            restore(0) = 1
            told(1) = 0; told(3) = 99
            """);
        told("Fractions are told in lowest terms by part: 0 the upper, 1 the lower number; refused with LOST and the "
            + "refusal.", """
            people(5); coat(0, 1, 0); coat(1, 1, 0); coat(@2..4, 0, 0)
            share(0, 0) = 9; share(0, 1) = 5
            share(1, 0) = 1; share(1, 1) = 20
            share(4, 0) = 1; share(4, 1) = 20
            share(0, !0..1) = LOST+OUTSIDE
            share(!0..4, 0) = LOST+UNKNOWN
            new(); people(5); coat(0, 9, 0); coat(1, 8, 1); coat(2, 7, 2); coat(3, 6, 3); coat(4, 5, 4)
            feast(AaBbCcDdEe) = 5
            set(0, 1, 3) = 0; set(1, 1, 7) = 0; set(2, 1, 1) = 0; set(3, 1, 9) = 0; set(4, 1, 3) = 0
            moths(4, 0, 0) = 1323; moths(4, 0, 1) = 100000      // 3 7 1 9 7 of 10 each
            set(4, 1, 0) = 3
            moths(4, 0, 0) = 189; moths(4, 0, 1) = 10000        // 3 7 1 9 of 10 each
            set(0, 1, 5) = 3; set(1, 1, 4) = 7; set(2, 1, 5) = 1; set(3, 1, 8) = 9
            moths(4, 0, 0) = 2; moths(4, 0, 1) = 25             // 5 4 5 8 of 10 each
            moths(0, 0, !0..1) = LOST+OUTSIDE
            moths(0, !0..4, 0) = LOST+OUTSIDE
            moths(!0..4, 0, 0) = LOST+UNKNOWN
            """);
        told("Sets are bits.", """
            person(0) = 1; person(2) = 2; person(4) = 3; coat(1, 5, 4) = 1; coat(3, 4, 2) = 2
            told(1) = 21; told(2) = 10; league(21) = 9; league(20) = 9; league(16) = 5; league(4) = 4; league(1) = 0
            feast(Eb) = 1; told(25) = 16
            """);
    }

    // ---- 1 people, coats, feasts

    private static void peopleAndCoats() {
        told("PEOPLE 0 to 4 (A to E), COATS 0 to 4 (a to e), some of each are there (none at first).", """
            told(1) = 0; told(2) = 0; at(@0..4) = NONE
            state(@0..4, 0) = UNKNOWN; decides(@0..4) = UNKNOWN
            people(5); told(1) = 31; at(4) = 4
            coat(4, 1, 4) = 1; coat(3, 1, 3) = 2; coat(2, 1, 2) = 3; coat(1, 1, 1) = 4; coat(0, 1, 0) = 5
            told(2) = 31
            feast(AaBbCcDdEe) = 5
            state(0, 0) = 0; state(1, 0) = 1; state(2, 0) = 2; state(3, 0) = 3; state(4, 0) = 4
            """);
        told("A COAT has STITCHES (0 to 99), an OWNER (a PERSON who is there), HALVES or not (not, at first), a FEE "
            + "(what it costs to hire, 0 to 99; 0 at first), MOTHS (0 to 10 tenths; 0 at first).", """
            people(2)
            coat(0, !0..99, 0) = OUTSIDE
            coat(0, 1, @2..4) = UNKNOWN
            coat(0, 0, 0) = 1; told(10) = 0
            coat(0, 99, 1) = 1; told(10) = 99; told(11) = 1; told(12) = 0; told(13) = 0; told(14) = 0; told(15) = 0
            set(0, 0, !0..99) = OUTSIDE
            set(0, 0, 99) = 0; told(12) = 99; set(0, 0, 0) = 99
            set(0, 1, !0..10) = OUTSIDE
            set(0, 1, 10) = 0; told(13) = 10; set(0, 1, 0) = 10
            set(0, 2, !0..1) = OUTSIDE
            set(0, 2, 1) = 0; told(14) = 1; set(0, 2, 0) = 1
            """);
        told("It is worn by one at most, or by none; with HALVES by two at most.", """
            people(4); coat(0, 9, 0) = 1; told(15) = 0
            feast(AaABa) = 2; told(15) = 2
            why(Aa) = 5
            set(0, 2, 1) = 0; why(Aa) = NONE; feast(AaACa) = 2; told(15) = 6
            why(Aa) = 5
            feast(CDa) = 1; told(15) = 10       // lent on: still two
            why(Aa) = 5
            feast(DAa) = 1; told(15) = 3
            feast(A-B-) = 2; told(15) = 0
            """);
        told("A PERSON wears one COAT at most, or none.", """
            people(2); coat(0, 9, 0); coat(1, 8, 0); coat(2, 0, 1)
            state(0, 0) = NONE
            feast(Aa) = 1; why(Ab) = 3; why(Aa) = 3
            feast(Bc) = 1; why(BAc) = 3; why(ABa) = 3
            state(0, 0) = 0; state(1, 0) = 2
            """);
        told("WORTH of a COAT to who wears it: its STITCHES, CAP at most (1 to 99; 99 at first); half of that (cut), if it "
            + "has HALVES (also if he wears it alone).", """
            people(2); told(3) = 99; cap(!1..99) = OUTSIDE
            coat(0, 98, 0); coat(1, 99, 1); feast(AaBb) = 2
            at(0) = 1                           // 99 is more than 98
            cap(98) = 99; at(0) = 0             // 98 both
            cap(99) = 98; at(0) = 1
            cap(1) = 99; at(0) = 0              // 1 both
            set(0, 2, 1) = 0; at(0) = 1         // half of 1, cut, is 0
            set(1, 2, 1) = 0; at(0) = 0
            cap(2) = 1; at(0) = 0; set(1, 2, 0) = 1; at(0) = 1
            cap(99) = 2; coat(0, 99, 0); set(0, 2, 1) = 0; coat(1, 50, 1); feast(AaBb) = 2
            at(0) = 1                           // half of 99, cut, is 49
            feast(B-) = 1; coat(1, 49, 1); feast(Bb) = 1; at(0) = 0
            elected(0) = 0; give(1, 1, 1) = 0; give(0, 1, 2) = 0; elected(0) = 1    // 49 each: the least
            cap(49) = 99; at(0) = 1             // half of CAP, not CAP of half
            """);
        told("SEATS, 0 the head: PEOPLE who are there, by the WORTH of what they wear (nothing: 0), the greatest first, of "
            + "several the least PERSON first.", """
            at(0) = NONE
            person(3) = 1; at(0) = 3; at(1) = NONE; state(3, 4) = 0
            person(1) = 2; at(0) = 1; at(1) = 3; at(2) = NONE
            coat(0, 0, 3) = 1; feast(Da) = 1; at(0) = 1     // a COAT without STITCHES is as nothing
            coat(0, 1, 3) = 1; feast(Da) = 1; at(0) = 3; at(1) = 1
            coat(1, 1, 1) = 2; feast(Bb) = 1; at(0) = 1; at(1) = 3
            person(0) = 3; at(2) = 0; state(0, 4) = 2; at(3) = NONE; at(!0..4) = NONE
            """);
    }

    private static void feasts() {
        told("A FEAST is a text on a PAD (60 SIGNS at most, codes 33 to 126) of EVENTS", """
            told(0) = 0; wipe() = 0; fault() = NONE; judge(@0..1) = NONE; done() = 0
            say(!33..126) = OUTSIDE
            say(33) = 1; say(126) = 2; wipe() = 2
            pad(...........................................................); told(0) = 59
            say(46) = 60; say(46) = FULL; told(0) = 60; fault() = NONE
            done() = 60; told(0) = 0; say(46) = 1
            """);
        told("two letters A to E and a letter a to e (the first one, who wears that COAT, lends it to the second, and wears "
            + "nothing then)", """
            people(5); coat(0, 5, 0); coat(4, 6, 4); set(4, 2, 1)
            feast(AaAEa) = 2; state(0, 0) = NONE; state(4, 0) = 0; told(15) = 16
            feast(EAa) = 1; state(4, 0) = NONE; state(0, 0) = 0
            feast(EeECeEeCDe) = 4; state(2, 0) = NONE; told(55) = 24
            why(ABe) = 2; why(CBe) = 2; why(EBe) = NONE
            """);
        told("a letter A to E and a to e (he puts on that COAT of his own), or - (takes off what he wears)", """
            people(5); coat(0, 5, 0); coat(4, 6, 4)
            why(Ae) = 4; why(Ea) = 4; feast(AaEe) = 2; state(0, 0) = 0; state(4, 0) = 4
            feast(A-E-) = 2; state(0, 0) = NONE; state(4, 0) = NONE; told(15) = 0; told(55) = 0
            why(A-) = 2
            feast(AaABaB-) = 3; told(15) = 0; told(11) = 0
            """);
        told("THE FAULT: the place (from 0 on) of the first sign that can not stand there; the number of signs, if more "
            + "must come.", """
            fault() = NONE
            at_fault(A) = 1; at_fault(AB) = 2; at_fault(AA) = 2; at_fault(.A) = 2; at_fault(AaAB) = 4
            at_fault(a) = 0; at_fault(-) = 0; at_fault(Aaa) = 2; at_fault(A--) = 2; at_fault(AB-) = 2
            at_fault(A.B*) = 1; at_fault(F) = 0; at_fault(AF) = 1; at_fault(ABF) = 2; at_fault(Af) = 1; at_fault(ABf) = 2
            at_fault(..........................................................AB) = 60       // the PAD is full
            at_fault(...........................................................A) = 60
            at_fault(...........................................................a) = 59
            at_fault(.........................................................ABa) = NONE
            at_fault(..........................................................A-) = NONE
            """);
        signsThatCanStand();
        told("An EVENT can not be for the least of these reasons: 1 a PERSON is not there, or both are one; 2 he does not "
            + "wear that COAT (with -: anything); 3 who puts on, or is lent to, wears something already; 4 the COAT is not "
            + "there, or not his; 5 who would put it on finds it worn by as many as can.", """
            people(3); coat(0, 9, 0); coat(1, 8, 1); coat(2, 7, 0)
            why(Dd) = 1; why(D-) = 1; why(Da) = 1             // also 2, 4
            why(ADa) = 1; why(DAa) = 1; why(DEd) = 1          // also 2
            why(AaBbADa) = 1; why(AaAAa) = 1; why(AAa) = 1; why(DDd) = 1
            why(A-) = 2; why(ABa) = 2; why(ABe) = 2
            why(AaABb) = 2; why(BbABa) = 2; why(AaBbABb) = 2  // also 3
            why(AaBbABa) = 3; why(AaAa) = 3; why(AaAc) = 3
            why(AaAb) = 3; why(AaAe) = 3                      // also 4
            why(AaABaAcAa) = 3                                // also 5
            why(Ab) = 4; why(Ae) = 4; why(Ca) = 4
            why(BbAb) = 4                                     // also 5
            why(AaABaAa) = 5
            set(0, 2, 1) = 0
            why(AaABaAa) = NONE; why(AaABaAaACaAa) = 5
            why(AaABaAaABa) = 3                               // he wears the other half
            why(AaABaAaACa) = NONE
            """);
        told("A COURSE: who sits in SEAT s eats as many portions as PEOPLE are there, less s; if what he wears has another "
            + "OWNER, he owes half of them (cut) to that one.", """
            feast(.) = 1
            person(4) = 1; feast(...) = 3; state(4, 1) = 3; leave(4) = 0
            people(5); coat(0, 50, 4); coat(1, 40, 4); coat(2, 30, 4); coat(3, 20, 4); coat(4, 10, 4)
            feast(EaEAaEbEBbEcECcEdEDdEe.) = 10
            state(0, 1) = 5; state(1, 1) = 4; state(2, 1) = 3; state(3, 1) = 2; state(4, 1) = 1
            state(0, 2) = 2; state(1, 2) = 2; state(2, 2) = 1; state(3, 2) = 1; state(4, 2) = 0
            state(@0..3, 3) = 0; state(4, 3) = 6
            coat(4, 0, 0); feast(A-AeAEe.) = 4
            state(4, 1) = 2; state(4, 2) = 0; state(0, 3) = 0     // SEAT 4: half of 1, cut
            """);
        told("Then each COAT that is worn has a STITCH less (0 at least).", """
            people(3); coat(0, 1, 1); coat(1, 9, 0); coat(2, 9, 2); set(2, 2, 1)
            feast(BaCcCAcCc.) = 5
            told(10) = 0; told(20) = 9; told(30) = 8        // b is not worn; c by two, one less
            coat(3, 9, 0); coat(4, 0, 0); told(40) = 9
            state(0, 1) = 3; state(2, 1) = 2; state(1, 1) = 1
            feast(A-C-.) = 3; told(10) = 0; told(30) = 8; told(40) = 9
            state(0, 1) = 6; state(1, 1) = 3                // a has no STITCH left
            new(); people(2); coat(0, 1, 1); feast(Ba.) = 2
            state(1, 1) = 2; at(0) = 0                      // seated by what it had ahead
            new(); people(1); coat(0, 9, 0); feast(.) = 1; told(10) = 9; year(9999, 1, 2) = 9; feast(Aa.) = 2; told(10) = 8
            """);
        told("On a fast day each eats 1, owes nothing, no COAT is worn out.", """
            feast(*) = 1
            people(3); coat(0, 9, 0); feast(AaACa*) = 3
            state(@0..2, 1) = 1; state(2, 2) = 0; state(0, 3) = 0; told(10) = 9
            feast(*.*) = 3; state(2, 1) = 6; state(0, 1) = 5; state(1, 1) = 4; state(2, 2) = 1; told(10) = 8
            """);
    }

    /** Every sign at the beginning, behind one letter A to E, behind two, behind an EVENT. */
    private static void signsThatCanStand() {
        for (int sign = 33; sign <= 126; sign++) {
            boolean person = sign >= 65 && sign <= 69;
            boolean coat = sign >= 97 && sign <= 101;
            boolean course = sign == 46 || sign == 42;
            signBehind("", sign, person ? 1 : course ? -6 : 0);
            signBehind("A", sign, person ? 2 : coat || sign == 45 ? -6 : 1);
            signBehind("E", sign, person ? 2 : coat || sign == 45 ? -6 : 1);
            signBehind("AE", sign, coat ? -6 : 2);
            signBehind("Aa", sign, person ? 3 : course ? -6 : 2);
            signBehind("E-", sign, person ? 3 : course ? -6 : 2);
            signBehind("EEe", sign, person ? 4 : course ? -6 : 3);
            signBehind(".", sign, person ? 2 : course ? -6 : 1);
        }
    }

    private static void signBehind(String text, int sign, int want) {
        x = new CoatDinner();
        pad(text);
        x.say(sign);
        due("fault() of " + text + (char) sign, x.fault(), want);
    }

    // ---- 2 feasts, steps

    private static void doneAndSteps() {
        told("JUDGED: of a FEAST the first EVENT (from 0 on) that can not be, and why.", """
            people(2); coat(0, 9, 0)
            first() = NONE; why() = NONE
            first(Ba) = 0; why(Ba) = 4
            first(.*AaB-A-A-) = 3; why(.*AaB-A-A-) = 2      // the last can not be, either
            first(AaABa.Aa) = 3; why(AaABa.Aa) = 5
            first(AaABaBAaA-) = NONE
            first(...........................................................*) = NONE
            first(..........................................................A-) = 58
            """);
        told("DONE: all is so then. BEHIND, likewise, not being DONE.", """
            people(2); coat(0, 9, 0)
            pad(AaABa.)
            behind(1, 0) = 0; behind(1, 1) = 2; behind(1, 2) = 1; behind(0, 3) = 1; behind(1, 4) = 0; behind(0, 4) = 1
            state(1, 0) = NONE; state(1, 1) = 0; state(1, 2) = 0; state(0, 3) = 0; state(1, 4) = 1; told(10) = 9; told(0) = 6
            done() = 3
            state(1, 0) = 0; state(1, 1) = 2; state(1, 2) = 1; state(0, 3) = 1; state(1, 4) = 0; told(10) = 8; told(0) = 0
            done() = 0; state(1, 1) = 2
            behind(1, 1) = 2
            """);
        told("(An OWNER who leaves takes his COATS with him; who leaves otherwise leaves what he wears.)", """
            people(4); coat(0, 9, 0); coat(1, 8, 0); coat(2, 7, 1); set(0, 2, 1)
            feast(AaACaAaADaBcBAc) = 6
            told(15) = 12; told(35) = 1
            leave(0) = 3
            told(2) = 4; state(2, 0) = NONE; state(3, 0) = NONE    // a and b are gone, from both
            told(35) = 0                                           // c is left by who wore it
            why(Bc) = NONE
            person(0) = 4; told(2) = 4; state(0, 0) = NONE
            coat(0, 9, 1); set(0, 2, 1); feast(BaBCaBaBDa) = 4; told(15) = 12
            leave(2) = 3; told(15) = 8; told(2) = 5; state(3, 0) = 0
            leave(1) = 2; told(2) = 0; state(3, 0) = NONE
            """);
        told("STEPS are lending, putting on, taking off, as EVENTS can be.", """
            people(3); coat(0, 9, 2)
            head(2, 0) = 1                      // puts on
            head(1, 0) = 2                      // and lends
            feast(Ca) = 1; head(0, 0) = 1       // takes off, or lends
            head(1, 0) = 1
            feast(CBa) = 1; head(2, 0) = 1      // what is lent is given back
            beside(0, 2) = 0                    // B A C
            coat(1, 5, 0); feast(Ab) = 1; head(0, 0) = 1
            head(2, 0) = 1; head(2, 1) = 1
            coat(0, 9, 0); feast(A-AaABaAb) = 4     // B in a, A in b, C naked
            head(2, 0) = 1                      // B lends a
            coat(1, 0, 2); feast(Cb) = 1
            head(2, 0) = 2                      // ahead of that C takes off b
            new(); people(3); coat(0, 9, 1); coat(1, 8, 2); feast(BaCb) = 2
            head(0, 0) = 1                      // B lends a to A, or both take off
            """);
        told("BESIDE: the fewest STEPS by which two sit side by side (in SEATS next to each other): how many (0 to 6); NONE: "
            + "not by 6.", """
            people(5); beside(0, 4) = NONE; beside(@0..0, @2..4) = NONE; beside(3, 4) = 0; beside(4, 3) = 0
            coat(0, 0, 4); coat(1, 1, 0); set(0, 2, 1); set(1, 2, 1); beside(1, 4) = NONE   // half of 1, cut: no WORTH
            coat(2, 2, 3); coat(3, 1, 1)
            beside(1, 4) = 3; beside(4, 1) = 3      // Bd Dc DEc: E B A C D, or Dc Bd BCd: D C A B E
            feast(AbACb) = 2; beside(1, 4) = 3      // the first of these
            feast(AbADb) = 2; beside(1, 4) = 4      // and D-
            feast(Ea) = 1; beside(1, 4) = 5         // and E-, or C- of the second
            feast(EBaEa) = 2
            beside(1, 4) = 6; beside(4, 1) = 6      // and B-
            state(4, 0) = 0; state(3, 0) = 1        // nothing is DONE
            feast(C-) = 1; beside(1, 4) = 5         // the second: D- Dc B- Bd BCd
            feast(D-) = 1; beside(1, 4) = 4
            feast(Dc) = 1; beside(1, 4) = 3
            feast(B-) = 1; beside(1, 4) = 2
            feast(Bd) = 1; beside(1, 4) = 1
            feast(BCd) = 1; beside(1, 4) = 0
            """);
        told("HEAD: the fewest STEPS by which a PERSON sits in a SEAT no farther than s; NONE, likewise.", """
            people(5); head(4, @0..3) = NONE; head(4, 4) = 0; head(0, @0..4) = 0
            coat(@0..4, 0, 0); head(4, @0..3) = NONE
            coat(0, 10, 0); coat(1, 10, 1); coat(2, 10, 2); coat(3, 10, 3); coat(4, 0, 4)
            head(4, @0..3) = 2                      // Aa AEa
            feast(AaBbCcDd) = 4
            head(4, 0) = 4; head(4, 1) = 3; head(4, 2) = 2; head(4, 3) = 1; head(4, 4) = 0
            feast(Ee) = 1
            head(4, 0) = 5; head(4, 1) = 4; head(4, 2) = 3; head(4, 3) = 2; head(4, 4) = 0     // E- AEa B- C- D-
            head(3, 0) = 3; head(3, 3) = 0          // A- B- C-
            leave(0) = 4; head(4, 0) = 4; head(4, 3) = 0; head(4, 4) = 0
            new(); people(2); coat(0, 0, 0); coat(4, 5, 1); feast(Aa) = 1; head(1, 0) = 1       // Be
            feast(Be) = 1; head(0, 0) = 1; head(1, 0) = 0
            """);
    }

    // ---- 3 ways, sewing, hiring

    private static void waysToWear() {
        told("WAYS to wear: who wears what (also nothing), no COAT by more than can. (Whoever owns it.)", """
            ways(-1, 0) = 1
            person(0) = 1; ways(-1, 0) = 1; ways(0, 0) = 1; ways(0, @1..4) = 0
            coat(0, 9, 0); ways(-1, 0) = 2
            person(1) = 2; ways(-1, 0) = 3; ways(1, 0) = 1; ways(0, 0) = 2      // B wears what A owns
            set(0, 2, 1) = 0; ways(-1, 0) = 4; ways(1, 0) = 1
            person(2) = 3; ways(-1, 0) = 7          // none, three of one, three of two
            set(0, 2, 0) = 1; ways(-1, 0) = 4
            person(3); person(4); coat(@1..4, 9, 0); ways(-1, @0..4) = 1546
            set(@0..4, 2, 1); ways(-1, @0..4) = 6396
            """);
        told("How many WAYS there are; in how many a PERSON sits in a SEAT.", """
            people(2); coat(0, 0, 0); ways(-1, 4) = 3; ways(0, 0) = 3; ways(1, 1) = 3; ways(1, 0) = 0; ways(1, 2) = 0
            coat(0, 1, 0); feast(Aa) = 1; ways(0, 0) = 2; ways(1, 0) = 1; ways(0, 4) = 0
            ways(2, 0) = UNKNOWN; ways(!-1..4, 0) = UNKNOWN; ways(0, !0..4) = OUTSIDE; ways(-1, !0..4) = OUTSIDE
            """);
        told("SEATINGS: how many different rows of PEOPLE there are by them.", """
            seatings() = 1; people(5); seatings() = 1
            coat(0, 0, 0); seatings() = 1; coat(0, 1, 0); seatings() = 5
            coat(1, 1, 0); seatings() = 14          // of one WORTH: ABCDE, four by one ahead, nine by two
            coat(1, 2, 0); seatings() = 20          // a row by its first two
            coat(2, 3, 0); coat(3, 4, 0); coat(4, 5, 0); seatings() = 120
            cap(1) = 99; seatings() = 27
            set(@0..4, 2, 1) = 0; seatings() = 1
            """);
        told("DECIDES: PEOPLE whose SEAT, all others wearing what they do, would not be what it is, if a COAT that is worn by "
            + "nobody else were put on by them instead of theirs, as bits; for a COAT.", """
            people(3); coat(0, 5, 0); decides(0) = 6; decides(1) = UNKNOWN
            coat(1, 0, 0); decides(1) = 0
            feast(AaACa) = 2; decides(0) = 0            // C wears it already, for the others it is worn
            decides(1) = 4                              // C would wear b
            set(0, 2, 1) = 0; decides(0) = 0
            coat(2, 1, 1); decides(2) = 2               // half of 5 is 2: C A B, and by 1: C A B, C B A, C A B
            coat(2, 2, 1); decides(2) = 3               // as much as C: both are ahead of it
            state(2, 0) = 0
            """);
        told("SEWN: the fewest STITCHES more (up to 99 in all) that what a PERSON wears must have so that he sits no farther "
            + "than s; NONE: by none, or he wears nothing.", """
            people(2); sewn(0, @0..4) = NONE; sewn(1, @0..4) = NONE
            coat(0, 98, 0); coat(1, 0, 1); feast(AaBb) = 2
            sewn(1, 0) = 99; sewn(1, @1..4) = 0; sewn(0, @0..4) = 0
            coat(0, 99, 0); feast(Aa) = 1; sewn(1, 0) = NONE        // 100 in all would be needed
            coat(1, 99, 1); feast(Bb) = 1; sewn(1, 0) = NONE
            coat(0, 99, 0); set(0, 2, 1) = 0; feast(Aa) = 1
            sewn(1, 0) = 0                                          // 99 to 49
            feast(A-B-) = 2; coat(0, 49, 0); coat(1, 97, 1); set(1, 2, 1) = 0; feast(AaBb) = 2
            sewn(1, 0) = NONE                                       // half of 99, cut, is 49
            feast(A-) = 1; coat(0, 48, 0); feast(Aa) = 1; sewn(1, 0) = 1
            cap(97) = 99; sewn(1, 0) = NONE
            told(20) = 97
            """);
        told("HIRED: the least FEE of a COAT (his own cost nothing) that is worn by nobody else (or that he wears), by "
            + "which, worn instead of his, he sits no farther than s: how much; which, the least; NONE.", """
            people(3); hired(0, 0, @0..1) = NONE
            coat(4, 9, 0); coat(3, 9, 0); set(@3..4, 0, 99) = 0
            hired(2, 0, 0) = 99; hired(2, 0, 1) = 3
            hired(0, 0, 0) = 0; hired(0, 0, 1) = 3              // his own
            set(4, 0, 98) = 99; hired(2, 0, 0) = 98; hired(2, 0, 1) = 4
            feast(AeABe) = 2
            hired(2, 0, 0) = NONE; hired(2, 0, 1) = NONE        // B wears e; by d he sits in 1
            hired(2, 1, 0) = 99; hired(2, 1, 1) = 3
            hired(1, 0, 0) = 98; hired(1, 0, 1) = 4             // that he wears, of another
            set(4, 2, 1) = 0; hired(1, 0, 0) = 98
            feast(Ae) = 1                                       // e is worn by A and B: 4 each
            hired(0, 0, 0) = 0; hired(0, 0, 1) = 3              // both are his own
            hired(1, 0, 0) = 99; hired(1, 0, 1) = 3; hired(1, 1, 0) = 98; hired(1, 1, 1) = 4
            hired(2, 0, 1) = 3; hired(2, 4, 1) = 3              // not e, which others wear
            state(1, 0) = 4
            new(); people(2); coat(0, 0, 0); hired(1, 0, 1) = NONE; hired(1, 1, 1) = 0
            coat(0, 1, 0); hired(1, 0, 1) = 0; coat(1, 2, 0); feast(AaAb) = NO
            feast(Ab) = 1; hired(1, 0, 1) = NONE; feast(A-Aa) = 2; hired(1, 0, 1) = 1; cap(1) = 99; hired(1, 0, 1) = NONE
            """);
        told("RISES: PEOPLE whose SEAT would be nearer to the head, if CAP were v, as bits.", """
            rises(@1..99) = 0; rises(!1..99) = OUTSIDE
            people(3); coat(0, 99, 2); coat(1, 98, 1); feast(CaBb) = 2     // C B A
            rises(99) = 0; rises(98) = 2; rises(1) = 2
            set(@0..1, 2, 1) = 0; at(0) = 1; rises(99) = 0                 // half of both, cut, is 49: B C A
            rises(1) = 1; rises(2) = 0                                     // half of 1, cut: A B C
            cap(1) = 99; rises(99) = 6; rises(2) = 6; rises(1) = 0
            told(3) = 1
            """);
    }

    // ---- 4 leagues, elections, moths

    private static void leaguesAndMoths() {
        told("A LEAGUE is worth the STITCHES of as many COATS owned by its PEOPLE as it has PEOPLE, the greatest of them "
            + "(CAP, HALVES not looked at).", """
            league(0) = 0; league(!0..0) = OUTSIDE
            people(5); league(@0..31) = 0; league(!0..31) = OUTSIDE; league(32) = OUTSIDE; league(-32) = OUTSIDE
            coat(0, 99, 0); coat(1, 98, 0); coat(2, 97, 0); coat(3, 96, 0); coat(4, 95, 0)
            cap(1) = 99; set(@0..4, 2, 1) = 0
            league(1) = 99; league(3) = 197; league(7) = 294; league(15) = 390; league(31) = 485; league(30) = 0
            feast(AaABa) = 2; league(1) = 99; league(2) = 0
            leave(4) = 4; league(16) = OUTSIDE; league(31) = OUTSIDE; league(15) = 390
            """);
        told("SHARE of a PERSON in all: the mean of what it adds to those ahead of it, over all rows of all PEOPLE who are "
            + "there.", """
            person(3) = 1; share(3, 0) = 0; share(3, 1) = 1
            coat(0, 9, 3); share(3, 0) = 9; share(3, 1) = 1
            person(0) = 2; share(3, 0) = 9; share(0, 0) = 0; share(0, 1) = 1
            coat(1, 9, 3); share(3, 0) = 27; share(3, 1) = 2; share(0, 0) = 9; share(0, 1) = 2
            leave(0) = 1; share(3, 0) = 9; share(0, 0) = LOST+UNKNOWN
            """);
        told("LEAVES: LEAGUES (not none) who are worth more than the GIFTS told to their PEOPLE together (0 to 999 each; 0 at "
            + "first): how many; the first as bits.", """
            leaves(0) = 0; leaves(1) = NONE; leaves(!0..1) = OUTSIDE
            people(5); leaves(0) = 0; leaves(1) = NONE; told(100) = 0
            coat(0, 99, 4); leaves(0) = 16; leaves(1) = 16
            give(4, 0, 98) = 0; leaves(0) = 16; give(4, 0, 99) = 98; leaves(0) = 0; leaves(1) = NONE     // not more
            give(4, 0, 0) = 99; give(0, 0, 999) = 0; give(0, 0, !0..999) = OUTSIDE; leaves(0) = 8; leaves(1) = 16
            coat(1, 1, 0); coat(2, 1, 1); coat(3, 1, 2); coat(4, 1, 3)
            leaves(1) = 2; give(0, 0, 0) = 999; leaves(0) = 31; leaves(1) = 1
            """);
        told("ELECTION: each PERSON is for one of three (0 to 2; 0 at first), by as many votes as the WORTH of what he wears: "
            + "which of the three has most, of several the least; SURE: which wins in all WAYS; NONE.", """
            elected(@0..1) = 0; elected(!0..1) = OUTSIDE
            people(3); told(101) = 0; give(0, 1, !0..2) = OUTSIDE
            give(0, 1, 2) = 0; give(1, 1, 1) = 0; give(2, 1, 1) = 0
            elected(0) = 0; elected(1) = 0          // no votes
            coat(0, 4, 0); coat(1, 4, 1); feast(AaBb) = 2
            elected(0) = 1; elected(1) = NONE       // 4 each of 1 and 2
            feast(B-) = 1; elected(0) = 2
            coat(1, 3, 1); feast(Bb) = 1; elected(0) = 2
            coat(2, 1, 2); feast(Cc) = 1; elected(0) = 1    // 3 and 1 together
            give(@0..2, 1, 0); elected(@0..1) = 0
            give(@0..2, 1, 2) = 0; elected(0) = 2; elected(1) = NONE     // if all are naked, 0
            coat(@0..2, 0, 0); elected(@0..1) = 0
            """);
        told("MOTHS: ahead of a COURSE each COAT that is worn is eaten by its tenths, each by itself: who wears it then wears "
            + "nothing: the chance that a PERSON sits in a SEAT then.", """
            people(3); moths(0, 0, 0) = 1; moths(0, 0, 1) = 1; moths(0, @1..4, 0) = 0; moths(0, @1..4, 1) = 1
            coat(0, 9, 2); set(0, 1, 10) = 0; moths(2, 2, 0) = 1; moths(2, 2, 1) = 1
            feast(Ca) = 1; moths(2, 0, 0) = 0; moths(2, 0, 1) = 1; moths(2, 2, 0) = 1; moths(2, 2, 1) = 1
            set(0, 1, 0) = 10; moths(2, 0, 0) = 1; moths(2, 2, 0) = 0; moths(2, 2, 1) = 1
            set(0, 1, 1) = 0; moths(2, 0, 0) = 9; moths(2, 0, 1) = 10; moths(2, 2, 0) = 1; moths(2, 2, 1) = 10
            coat(1, 8, 1); set(1, 1, 10) = 0; moths(1, 2, 0) = 9; moths(1, 2, 1) = 10     // b is not worn
            feast(Bb) = 1; moths(1, 1, 0) = 1; moths(1, 1, 1) = 10
            moths(1, 2, 0) = 9; moths(1, 2, 1) = 10
            set(0, 2, 1) = 0; feast(CAaCa) = 2; set(1, 1, 0) = 10
            moths(1, 0, 0) = 1; moths(1, 0, 1) = 1                          // 8 to 4 and 4
            coat(1, 3, 1); feast(Bb) = 1
            moths(1, 0, 0) = 1; moths(1, 0, 1) = 10; moths(1, 2, 0) = 9     // both halves are eaten, or none
            moths(1, 1, 0) = 0; moths(1, 1, 1) = 1
            told(15) = 5; told(10) = 9
            """);
    }

    // ---- 5 sights, years

    private static void sightsAndYears() {
        told("SIGHTS, 6 at most: a PERSON sat in a SEAT (0 to 4).", """
            told(4) = 0; forget() = 0
            seen(!0..4, 0) = UNKNOWN; seen(0, !0..4) = OUTSIDE
            seen(0, 0) = 1; seen(4, 4) = 2; seen(0, 0) = 3; seen(1, 3) = 4; seen(2, 2) = 5; told(4) = 5
            seen(3, 1) = 6; told(4) = 6; seen(3, 1) = FULL; forget() = 6; told(4) = 0; seen(3, 1) = 1
            """);
        told("FIT: WAYS by which all SIGHTS hold: how many; by whom a COAT is worn in some of these, as bits (bit 5: by "
            + "nobody).", """
            fit(-1) = 1; fit(@0..4) = UNKNOWN; fit(!-1..4) = UNKNOWN
            people(5); coat(0, 9, 0); fit(-1) = 6; fit(0) = 63; fit(1) = UNKNOWN
            set(0, 2, 1) = 0; fit(-1) = 16; fit(0) = 63
            seen(4, 0); fit(-1) = 1; fit(0) = 16
            seen(3, 1); fit(-1) = 0; fit(0) = 0         // of two in one COAT the least is first
            forget() = 2; seen(4, 1); fit(-1) = 4; fit(0) = 31
            forget() = 1; seen(4, 4); fit(-1) = 11; fit(0) = 47      // none, four alone, six pairs without E
            forget() = 1; seen(0, 0); seen(1, 1); seen(2, 2); seen(3, 3); seen(4, 4); fit(-1) = 3; fit(0) = 35
            seen(0, 4) = 6; fit(-1) = 0
            forget() = 6; leave(4) = 4; seen(4, 4); fit(-1) = 0; fit(0) = 0     // who is not there sits nowhere
            """);
        told("A YEAR by a seed (0 to 9999) of m COURSES (1 to 99), from all as it is: ahead of each: x becomes (75 x and 74) "
            + "left over by 65537", """
            year(!0..9999, 1, 0) = OUTSIDE; year(0, !1..99, 0) = OUTSIDE; year(0, 1, !0..2) = OUTSIDE
            year(0, 1, @0..2) = 0; year(9999, 99, @0..2) = 0
            person(0) = 1; year(0, 1, 0) = 1; year(9999, 99, 0) = 99; year(0, 99, 0) = 99
            person(2) = 2; coat(3, 7, 2); year(9999, 1, 0) = 1; year(9999, 1, 2) = 6     // 749999 left over is 29092: Cd
            year(9999, 2, 2) = 6; year(9999, 2, 0) = 2                                   // 19253: fast, D is not there
            coat(2, 5, 2); year(873, 1, 2) = 12; year(873, 1, 0) = 1     // 65549 left over is 12: Cc, fast
            year(874, 1, 2) = 11; year(874, 1, 0) = 1                    // 65624 left over is 87: Cc
            person(4) = 3; coat(4, 1, 4); year(872, 1, 2) = 13; year(872, 1, 0) = 1     // 65474: Ee, fast
            """);
        told("PERSON x left over by 5 takes off what he wears, if he wears something, else he puts on COAT x by 5 (cut) left "
            + "over by 5, if that can be (as of EVENTS); then a COURSE (a fast one, if x by 25 (cut) is left over by 7 as 0)", """
            person(0) = 1; person(4) = 2; coat(4, 9, 4)
            year(0, 1, 2) = 8; year(0, 1, 0) = 1; year(0, 2, 2) = 8; year(0, 2, 0) = 2       // Ee . E- *
            year(4, 1, 2) = 9; year(4, 1, 0) = 1                                             // 374: Ee *
            feast(Ee) = 1; year(0, 1, 2) = 9; year(0, 1, 0) = 2                              // E- .
            feast(EAe) = 1; year(0, 1, 2) = 8; year(0, 1, 0) = 2                             // e is worn by A: E stays naked
            year(0, 1, 1) = 1
            set(4, 2, 1) = 0; year(0, 1, 2) = 8; feast(AEeEAe) = 2
            coat(4, 9, 0); year(0, 1, 2) = 9; year(0, 1, 0) = 2                              // e is not his
            coat(3, 9, 4); feast(Ed) = 1; year(0, 1, 2) = 18                                 // E takes off d, whatever 74 tells
            leave(4) = 1; coat(4, 9, 0); year(0, 1, 2) = 9; year(0, 1, 0) = 1                // E is not there
            """);
        told("portions that PERSON 0 eats in all this YEAR (0, if it is not there); what is owed in all by all who are there "
            + "(of ahead, too); STITCHES that are left of all COATS. Nothing is DONE in fact.", """
            people(3); coat(0, 2, 0); coat(1, 50, 0); feast(AbABbAaACa..) = 6       // B 3 3, C 2 2, A 1 1
            state(0, 1) = 2; state(1, 2) = 2; state(2, 2) = 2
            year(0, 1, 0) = 2; year(0, 1, 1) = 5; year(0, 1, 2) = 47    // a is out of STITCHES: C eats 1
            leave(2) = 2; year(0, 1, 1) = 3; year(0, 1, 0) = 1; year(0, 1, 2) = 47
            pad(A); year(9999, 99, @0..2)
            state(0, 1) = 2; state(1, 2) = 2; told(20) = 48; told(25) = 2; told(0) = 1
            person(2) = 3; leave(0) = 2; year(0, 1, 0) = 0; year(9999, 99, 0) = 0; year(9999, 99, 2) = 0
            year(0, 9, 1) = 2                                           // of ahead
            """);
    }

    // ---- the promises' own words

    private static void promisesOneToTwelve() {
        told("Nobody is there, no COAT.", """
            told(@0..2) = 0; told(3) = 99; told(4) = 0; told(@5..700) = OUTSIDE
            at(0) = NONE; leave(@0..4) = UNKNOWN; set(@0..4, 0, 0) = UNKNOWN; restore(@0..1) = STATE
            """);
        told("A PERSON is there, wearing nothing, having eaten nothing: how many are. UNKNOWN; STATE: it is there.", """
            person(!0..4) = UNKNOWN
            person(4) = 1; person(4) = STATE; person(0) = 2; person(@1..3); told(1) = 31; person(@0..4) = STATE
            coat(0, 9, 4); feast(Ea.) = 2; state(4, 1) = 5; leave(4) = 4; person(4) = 5
            state(4, 0) = NONE; state(4, 1) = 0
            """);
        told("A PERSON leaves: how many are there. UNKNOWN: it was not.", """
            leave(!0..4) = UNKNOWN; leave(@0..4) = UNKNOWN
            people(5); leave(0) = 4; leave(0) = UNKNOWN; leave(4) = 3; leave(2) = 2; leave(1) = 1; leave(3) = 0
            leave(@0..4) = UNKNOWN
            """);
        told("A COAT is there (or anew: worn by nobody, FEE, MOTHS, HALVES as at first): how many are. UNKNOWN: both; "
            + "OUTSIDE.", """
            coat(0, 1, 0) = UNKNOWN; people(2)
            coat(!0..4, 1, 0) = UNKNOWN; coat(0, 1, !0..1) = UNKNOWN; coat(0, !0..99, 0) = OUTSIDE; told(2) = 0
            coat(0, 9, 0) = 1; set(0, 0, 5); set(0, 1, 5); set(0, 2, 1); feast(AaABaAa) = 3; told(15) = 3
            coat(0, !0..99, 0) = OUTSIDE; coat(0, 9, 2) = UNKNOWN; told(15) = 3
            coat(0, 9, 0) = 1; told(10) = 9; told(@12..15) = 0; state(@0..1, 0) = NONE
            coat(0, 8, 1) = 1; told(10) = 8; told(11) = 1
            coat(@1..3, 0, 0); coat(4, 99, 0) = 5
            """);
        told("Of a COAT: its FEE (what = 0), MOTHS (1), HALVES (2: 1, 0): which it was. UNKNOWN; OUTSIDE; STATE: two wear it, "
            + "and it would have no HALVES.", """
            set(@0..4, @0..2, 0) = UNKNOWN; people(2); coat(0, 9, 0); set(!0..4, 0, 0) = UNKNOWN; set(1, 0, 0) = UNKNOWN
            set(0, !0..2, 0) = OUTSIDE; set(0, 0, !0..99) = OUTSIDE; set(0, 1, !0..10) = OUTSIDE; set(0, 2, !0..1) = OUTSIDE
            set(0, 0, 99) = 0; set(0, 0, 98) = 99; set(0, 1, 10) = 0; set(0, 1, 9) = 10; set(0, 2, 0) = 0; set(0, 2, 1) = 0
            told(12) = 98; told(13) = 9; told(14) = 1
            feast(AaABa) = 2; set(0, 2, 0) = 1; set(0, 2, 1) = 0        // one wears it
            feast(Aa) = 1; set(0, 2, 0) = STATE; set(0, 2, 1) = 1; set(0, 0, 0) = 98; set(0, 1, 0) = 9
            leave(1) = 1; set(0, 2, 0) = 1
            """);
        told("CAP: which it was. OUTSIDE.", """
            cap(!1..99) = OUTSIDE; cap(1) = 99; cap(99) = 1; cap(99) = 99; cap(50) = 99; told(3) = 50
            """);
        told("A GIFT (what = 0), whom he is for (1): which it was. UNKNOWN; OUTSIDE.", """
            give(@0..4, 0, 0) = UNKNOWN; people(2); give(!0..4, 0, 0) = UNKNOWN; give(2, 0, 0) = UNKNOWN
            give(0, !0..1, 0) = OUTSIDE; give(0, 0, !0..999) = OUTSIDE; give(0, 1, !0..2) = OUTSIDE
            give(0, 0, 999) = 0; give(0, 0, 0) = 999; give(1, 1, 2) = 0; give(1, 1, 0) = 2; give(1, 0, 1) = 0; told(200) = 1
            """);
        told("A sign more: how many. OUTSIDE; FULL.", """
            say(!33..126) = OUTSIDE; say(@33..92); told(0) = 60; say(93) = FULL; say(32) = OUTSIDE; told(0) = 60
            """);
        told("Signs go: how many there were.", """
            wipe() = 0; say(126) = 1; wipe() = 1; wipe() = 0; fault() = NONE; say(@33..92); wipe() = 60; say(46) = 1
            """);
        told("THE FAULT; NONE.", """
            fault() = NONE; say(46) = 1; fault() = NONE; say(33) = 2; fault() = 1; say(46) = 3; fault() = 1
            wipe() = 3; fault() = NONE
            """);
        told("JUDGED: the EVENT (what = 0), why (1); NONE. OUTSIDE; NO: there is a FAULT.", """
            judge(@0..1) = NONE; judge(!0..1) = OUTSIDE; pad(A); judge(@0..1) = NO; pad(.A-B); judge(@0..1) = NO
            pad(.A-); judge(0) = 1; judge(1) = 1; told(0) = 3
            """);
        told("The FEAST on the PAD is DONE (it is empty then): EVENTS. NO: there is a FAULT, or an EVENT that can not be.", """
            done() = 0; people(1); pad(.A); done() = NO; told(0) = 2; state(0, 1) = 0
            pad(..A-); done() = NO; told(0) = 4; state(0, 1) = 0
            pad(..*); done() = 3; told(0) = 0; state(0, 1) = 3; done() = 0; state(0, 1) = 3
            """);
    }

    private static void promisesThirteenToTwentyThree() {
        told("Of a PERSON: the COAT it wears (what = 0; NONE), portions eaten (1), what it owes in all (2), what is owed to it "
            + "(3), its SEAT (4). UNKNOWN; OUTSIDE.", """
            state(@0..4, @0..4) = UNKNOWN; people(1); state(!0..4, 0) = UNKNOWN; state(1, 0) = UNKNOWN
            state(0, !0..4) = OUTSIDE; state(0, 0) = NONE; state(0, @1..4) = 0
            """);
        told("BEHIND, likewise. UNKNOWN; OUTSIDE; NO, as of done().", """
            behind(@0..4, @0..4) = UNKNOWN; people(1); behind(!0..4, 0) = UNKNOWN; behind(1, 0) = UNKNOWN
            behind(0, !0..4) = OUTSIDE; behind(0, 0) = NONE; behind(0, @1..4) = 0
            pad(A); behind(0, @0..4) = NO; pad(.A-); behind(0, @0..4) = NO; pad(..); behind(0, 1) = 2; state(0, 1) = 0
            """);
        told("Who sits in a SEAT; NONE.", """
            at(@0..4) = NONE; at(!0..4) = NONE; person(4) = 1; at(0) = 4; at(@1..4) = NONE; at(!0..4) = NONE; at(-6) = NONE
            person(@0..3); at(0) = 0; at(4) = 4; at(5) = NONE
            """);
        told("BESIDE; NONE. UNKNOWN: both, also one.", """
            beside(@0..4, @0..4) = UNKNOWN; people(3); beside(!0..4, 0) = UNKNOWN; beside(0, !0..4) = UNKNOWN
            beside(3, 0) = UNKNOWN; beside(0, 3) = UNKNOWN; beside(0, 0) = UNKNOWN; beside(2, 2) = UNKNOWN
            beside(0, 1) = 0; beside(0, 2) = NONE; beside(2, 0) = NONE; leave(1) = 2; beside(0, 2) = 0
            """);
        told("HEAD; NONE. UNKNOWN; OUTSIDE: s 0 to 4.", """
            head(@0..4, @0..4) = UNKNOWN; people(2); head(!0..4, 0) = UNKNOWN; head(2, 0) = UNKNOWN; head(0, !0..4) = OUTSIDE
            head(1, 0) = NONE; head(1, @1..4) = 0; head(0, @0..4) = 0
            """);
        told("WAYS (person = -1), in how many a PERSON sits in a SEAT. UNKNOWN; OUTSIDE: the SEAT 0 to 4.", """
            ways(-1, @0..4) = 1; ways(@0..4, 0) = UNKNOWN; ways(!-1..4, 0) = UNKNOWN; ways(-1, !0..4) = OUTSIDE
            people(1); ways(0, !0..4) = OUTSIDE; ways(0, 4) = 0; ways(0, 0) = 1; ways(1, 0) = UNKNOWN
            """);
        told("SEATINGS.", """
            seatings() = 1; person(4) = 1; seatings() = 1; coat(0, 9, 4); seatings() = 1; person(3) = 2; seatings() = 2
            leave(4) = 1; seatings() = 1
            """);
        told("DECIDES, as bits. UNKNOWN.", """
            decides(@0..4) = UNKNOWN; people(5); coat(4, 1, 0); decides(!0..4) = UNKNOWN; decides(@0..3) = UNKNOWN
            decides(4) = 30
            """);
        told("SEWN; NONE. UNKNOWN; OUTSIDE.", """
            sewn(@0..4, 0) = UNKNOWN; people(2); sewn(!0..4, 0) = UNKNOWN; sewn(2, 0) = UNKNOWN; sewn(0, !0..4) = OUTSIDE
            sewn(0, 0) = NONE; coat(0, 0, 0); feast(Aa) = 1; sewn(0, 0) = 0; feast(ABa) = 1; sewn(1, 0) = 1
            """);
        told("HIRED: how much (what = 0), which (1); NONE. UNKNOWN; OUTSIDE.", """
            hired(@0..4, 0, 0) = UNKNOWN; people(2); hired(!0..4, 0, 0) = UNKNOWN; hired(2, 0, 0) = UNKNOWN
            hired(0, !0..4, 0) = OUTSIDE; hired(0, 0, !0..1) = OUTSIDE; hired(0, @0..4, @0..1) = NONE
            coat(4, 0, 0); set(4, 0, 9); hired(1, 0, 0) = NONE; hired(1, 1, 0) = 9; hired(1, @1..4, 1) = 4
            """);
        told("RISES, as bits. OUTSIDE.", """
            rises(!1..99) = OUTSIDE; people(5); rises(1) = 0
            coat(0, 2, 4); feast(Ea) = 1; rises(1) = 0; set(0, 2, 1) = 0; rises(1) = 15; rises(2) = 0
            """);
    }

    private static void promisesTwentyFourToThirtyFive() {
        told("What a LEAGUE is worth. OUTSIDE: it is not of PEOPLE who are there.", """
            league(0) = 0; league(@1..64) = OUTSIDE; league(!0..31) = OUTSIDE
            person(4) = 1; league(16) = 0; league(@1..15) = OUTSIDE; league(@17..64) = OUTSIDE; league(48) = OUTSIDE
            """);
        told("SHARE. UNKNOWN; OUTSIDE.", """
            share(@0..4, 0) = LOST+UNKNOWN; share(!0..4, 0) = LOST+UNKNOWN; people(1); share(1, 0) = LOST+UNKNOWN
            share(0, !0..1) = LOST+OUTSIDE; share(0, 0) = 0; share(0, 1) = 1
            """);
        told("LEAVES: how many (what = 0), the first (1; NONE). OUTSIDE.", """
            leaves(!0..1) = OUTSIDE; leaves(0) = 0; leaves(1) = NONE
            people(2); coat(0, 1, 1); leaves(0) = 2; leaves(1) = 2
            """);
        told("ELECTION: who (what = 0), SURE (1; NONE). OUTSIDE.", """
            elected(!0..1) = OUTSIDE; elected(@0..1) = 0; people(1); give(0, 1, 2) = 0; elected(@0..1) = 0
            coat(0, 1, 0); elected(0) = 0; elected(1) = NONE; feast(Aa) = 1; elected(0) = 2; elected(1) = NONE
            """);
        told("MOTHS. UNKNOWN; OUTSIDE.", """
            moths(@0..4, 0, 0) = LOST+UNKNOWN; moths(!0..4, 0, 0) = LOST+UNKNOWN; people(1); moths(1, 0, 0) = LOST+UNKNOWN
            moths(0, !0..4, 0) = LOST+OUTSIDE; moths(0, 0, !0..1) = LOST+OUTSIDE
            moths(0, 0, @0..1) = 1; moths(0, 4, 0) = 0; moths(0, 4, 1) = 1
            """);
        told("A SIGHT more: how many. UNKNOWN: PERSON 0 to 4; OUTSIDE; FULL.", """
            seen(!0..4, 0) = UNKNOWN; seen(0, !0..4) = OUTSIDE; seen(@0..4, 4); seen(4, 0) = 6; seen(4, 0) = FULL
            seen(5, 0) = UNKNOWN; seen(4, 5) = OUTSIDE; told(4) = 6
            """);
        told("SIGHTS go: how many there were.", """
            forget() = 0; seen(0, 0) = 1; fit(-1) = 0; forget() = 1; fit(-1) = 1; forget() = 0
            seen(@0..4, 4); seen(4, 0) = 6; forget() = 6; seen(4, 0) = 1
            """);
        told("FIT: how many (coat = -1), by whom a COAT is worn, as bits. UNKNOWN.", """
            fit(!-1..4) = UNKNOWN; fit(@0..4) = UNKNOWN; fit(-1) = 1
            person(4) = 1; coat(4, 0, 4); fit(4) = 48; fit(-1) = 2; fit(@0..3) = UNKNOWN
            """);
        told("A YEAR: portions (what = 0), what is owed (1), STITCHES (2). OUTSIDE.", """
            year(!0..9999, 1, 0) = OUTSIDE; year(0, !1..99, 0) = OUTSIDE; year(0, 1, !0..2) = OUTSIDE; year(9999, 99, @0..2) = 0
            """);
        told("All but the PAD is kept in an IMAGE (0, 1): 1. OUTSIDE.", """
            image(!0..1) = OUTSIDE; image(0) = 1; restore(1) = STATE; restore(0) = 1
            people(2); coat(0, 9, 0); set(0, 2, 1); set(0, 1, 3); set(0, 0, 4); cap(8); give(1, 0, 7); give(1, 1, 1); seen(1, 0)
            feast(AaABaAa.) = 4; pad(A); image(1) = 1; told(0) = 1
            give(0, 0, 1) = 0; give(0, 1, 2) = 0; give(1, 0, 999) = 7; give(1, 1, 0) = 1; set(0, 0, 0) = 4; set(0, 1, 0) = 3
            feast(A-B-.) = 3; set(0, 2, 0) = 1; forget() = 1; seen(0, 0) = 1; cap(9) = 8
            leave(1) = 1; coat(0, 5, 0); coat(4, 5, 0); person(4) = 2; pad(..)
            restore(1) = 1
            told(0) = 2; told(1) = 3; told(2) = 1; told(3) = 8; told(4) = 1
            told(10) = 8; told(11) = 0; told(12) = 4; told(13) = 3; told(14) = 1; told(15) = 3
            told(@100..101) = 0; told(200) = 7; told(201) = 1
            state(1, 0) = 0; state(1, 1) = 1; state(0, 1) = 2; state(1, 2) = 0; fit(-1) = 1; fit(0) = 2
            """);
        told("It is as it was when it was kept: 1. OUTSIDE; STATE: it was not.", """
            restore(!0..1) = OUTSIDE; restore(@0..1) = STATE; people(1); image(1) = 1; restore(0) = STATE
            person(1) = 2; image(1) = 1; person(2) = 3; image(0) = 1
            leave(@0..2); restore(1) = 1; told(1) = 3; restore(1) = 1; told(1) = 3; restore(0) = 1; told(1) = 7
            leave(0) = 2; restore(0) = 1; told(1) = 7     // what is changed behind a restoring is not kept
            """);
        told("0 signs, 1 PEOPLE (bits), 2 COATS (bits), 3 CAP, 4 SIGHTS, 10 times (1 and a COAT that is there) and 0 STITCHES, "
            + "1 OWNER, 2 FEE, 3 MOTHS, 4 HALVES, 5 who wear it (bits); 100 times (1 and a PERSON who is there) and 0 its "
            + "GIFT, 1 whom it is for. OUTSIDE.", """
            told(@10..700) = OUTSIDE; told(!0..4) = OUTSIDE
            people(5); coat(@0..4, 7, 3)
            told(@5..9) = OUTSIDE; told(@16..19) = OUTSIDE; told(@26..29) = OUTSIDE; told(@36..39) = OUTSIDE
            told(@46..49) = OUTSIDE; told(@56..99) = OUTSIDE; told(@102..199) = OUTSIDE; told(@202..299) = OUTSIDE
            told(@302..399) = OUTSIDE; told(@402..499) = OUTSIDE; told(@502..700) = OUTSIDE; told(!0..700) = OUTSIDE
            told(10) = 7; told(50) = 7; told(11) = 3; told(51) = 3; told(@52..55) = 0; told(@100..101) = 0; told(@500..501) = 0
            leave(3) = 4; told(@10..99) = OUTSIDE; told(@400..401) = OUTSIDE; told(@500..501) = 0
            """);
    }

    private static void lastCalls() {
        told("An object is used for at most 512 calls after it has been made; what later calls answer is free.", "");
        x = new CoatDinner();
        for (int i = 0; i < 5; i++) {
            x.person(i);
        }
        for (int i = 0; i < 5; i++) {
            x.coat(i, 20 - 2 * i, i);
            x.set(i, 2, 1);
        }
        for (int n = 15; n < 512; n += 7) {
            due("call " + n, x.ways(-1, 0), 6396);
            due("call " + n, x.fit(-1), 6396);
            due("call " + n, x.seatings(), 120);
            due("call " + n, x.elected(1), 0);
            due("call " + n, x.beside(0, 4), 1);
            due("call " + n, x.head(4, 0), 1);
            due("call " + n, x.year(9999, 99, 0) > 0 ? 1 : 0, 1);
        }
    }

    /** A quote that is not in the document tests another sentence than it says. */
    private static void quotesStandInTheDocument() throws IOException {
        if (!Files.exists(DOCUMENT)) {
            return;
        }
        String document = Files.readString(DOCUMENT).replaceAll("\\s+", " ");
        sentence = "the document";
        for (String quote : QUOTES) {
            if (!document.contains(quote)) {
                wrong("does not say: " + quote);
            }
        }
        for (int n = 1; n <= 35; n++) {
            if (!hasQuote(document, n)) {
                wrong("promise " + n + " has no sentence that is quoted");
            }
        }
    }

    private static boolean hasQuote(String document, int promise) {
        int from = document.indexOf("## Promise " + promise + ":");
        int to = document.indexOf("## ", from + 3);
        return from >= 0 && to >= 0 && QUOTES.stream().anyMatch(document.substring(from, to)::contains);
    }

    public static void main(String[] args) throws IOException {
        NAMES.putAll(Map.of("NONE", -6L, "UNKNOWN", -1L, "OUTSIDE", -2L, "STATE", -3L, "FULL", -4L, "NO", -5L,
            "LOST", -1000000000000000000L));
        for (Method m : CoatDinner.class.getMethods()) {
            FACE.put(m.getName(), m);
        }
        refusals();
        peopleAndCoats();
        feasts();
        doneAndSteps();
        waysToWear();
        leaguesAndMoths();
        sightsAndYears();
        promisesOneToTwelve();
        promisesThirteenToTwentyThree();
        promisesTwentyFourToThirtyFive();
        lastCalls();
        quotesStandInTheDocument();
        System.out.println(wrong == 0 ? QUOTES.size() + " sentences are as due" : wrong + " answers are not as due");
        if (wrong != 0) {
            System.exit(1);
        }
    }
}
