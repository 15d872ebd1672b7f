import java.util.ArrayList;
import java.util.Arrays;
import java.util.HashMap;
import java.util.List;
import java.util.Map;

/**
 * Each sentence of the document that names a boundary case, with rows of its own. A refused call is
 * asked for its answer, and that every reading of the object is the same without it.
 */
public final class BoundaryTest {
    private static final int UNKNOWN = -1, OUTSIDE = -2, STATE = -3, FULL = -4, NONE = -9;
    private static final int MIN = Integer.MIN_VALUE, MAX = Integer.MAX_VALUE;
    private static final int MOST_CALLS = 512;
    private static final long SEVEN_BY_15 = 4747561509943L;
    private static final Scene NEW = new Scene(new ArrayList<>());

    private static final Map<String, int[]> NUMBERS = new HashMap<>();
    private static String sentence = "";
    private static int sentences = 0;
    private static int rows = 0;
    private static int wrong = 0;

    public static void main(String[] args) {
        whatItIs();
        newObject();
        person();
        away();
        here();
        rules();
        keyAndWipe();
        paragraphFull();
        texts();
        goingOn();
        firstFaults();
        everyCode();
        cut();
        ofParagraph();
        set();
        ownByHere();
        ownByRules();
        ownByHint();
        hint();
        link();
        rounds();
        ways();
        would();
        conflict();
        asked();
        run();
        ofPerson();
        rank();
        written();
        many();
        System.out.println(sentences + " sentences, " + rows + " rows: "
                + (wrong == 0 ? "all as due" : wrong + " not as due"));
        if (wrong != 0) {
            System.exit(1);
        }
    }

    // ---- how rows are asked

    /** The sentence of the document that the next rows are of. */
    private static void of(String words) {
        sentence = words;
        sentences++;
    }

    private static void due(List<String> calls, String call, Object got, Object want) {
        rows++;
        if (!got.equals(want)) {
            wrong++;
            System.out.println(sentence + "\n  behind " + calls + "\n  " + call + " answered " + got
                    + ", due is " + want);
        }
    }

    /** A run of calls on a new object. Each question is put to an object of its own. */
    private static final class Scene {
        private final List<String> calls;
        private String readings = "";

        Scene(List<String> calls) {
            this.calls = calls;
        }

        Scene then(String... more) {
            List<String> all = new ArrayList<>(calls);
            all.addAll(Arrays.asList(more));
            return new Scene(all);
        }

        Scene keys(String codes) {
            List<String> all = new ArrayList<>(calls);
            for (char code : codes.toCharArray()) {
                all.add("key(" + (int) code + ")");
            }
            return new Scene(all);
        }

        Scene writes(String... texts) {
            Scene scene = this;
            for (String text : texts) {
                scene = scene.keys(text).then("paragraph()");
            }
            return scene;
        }

        Scene repeats(int times, String text) {
            Scene scene = this;
            for (int i = 0; i < times; i++) {
                scene = scene.writes(text);
            }
            return scene;
        }

        Scene answers(String call, long want) {
            due(calls, call, new Player(calls).call(call), want);
            return this;
        }

        /** The answer, and that nothing is another by the call: of refusals and of readings. */
        Scene refuses(String call, long want) {
            answers(call, want);
            if (readings.isEmpty()) {
                readings = readingsOf(calls);
            }
            due(calls, "what is read behind " + call, readingsOf(then(call).calls), readings);
            return this;
        }

        Scene tells(String call, long want) {
            return refuses(call, want);
        }

        /** What call(0, what), call(1, what) .. answer. */
        Scene row(String call, int what, long... want) {
            for (int k = 0; k < want.length; k++) {
                answers(call + "(" + k + ", " + what + ")", want[k]);
            }
            return this;
        }

        Scene signs(int k, String want) {
            tells("written(" + k + ", -1)", want.length());
            for (int i = 0; i < 15; i++) {
                answers("written(" + k + ", " + i + ")", i < want.length() ? want.charAt(i) : NONE);
            }
            return this;
        }
    }

    /** PEOPLE by their SORTS (h, s, n; a dot for one that is not there), all of them HERE. */
    private static Scene with(String sorts, String... texts) {
        Scene scene = NEW;
        int all = 0;
        for (int p = 0; p < sorts.length(); p++) {
            int sort = "hsn".indexOf(sorts.charAt(p));
            if (sort >= 0) {
                scene = scene.then("person(" + p + ", " + sort + ")");
                all |= 1 << p;
            }
        }
        return scene.then("here(" + all + ")").writes(texts);
    }

    /** One object, which is never asked for more calls than the document promises. */
    private static final class Player {
        private final WhoSpeaks x = new WhoSpeaks();
        private int made = 0;

        Player(List<String> calls) {
            for (String call : calls) {
                call(call);
            }
        }

        long call(String call) {
            made++;
            if (made > MOST_CALLS) {
                throw new IllegalStateException("more than 512 calls: " + sentence);
            }
            int[] n = NUMBERS.computeIfAbsent(call, BoundaryTest::numbersOf);
            switch (call.substring(0, call.indexOf('('))) {
                case "person": return x.person(n[0], n[1]);
                case "away": return x.away(n[0]);
                case "here": return x.here(n[0]);
                case "rules": return x.rules(n[0]);
                case "key": return x.key(n[0]);
                case "wipe": return x.wipe();
                case "paragraph": return x.paragraph();
                case "cut": return x.cut();
                case "ofParagraph": return x.ofParagraph(n[0], n[1]);
                case "set": return x.set(n[0], n[1]);
                case "hint": return x.hint(n[0], n[1]);
                case "link": return x.link(n[0]);
                case "ways": return x.ways();
                case "would": return x.would(n[0], n[1]);
                case "conflict": return x.conflict(n[0]);
                case "asked": return x.asked();
                case "run": return x.run(n[0], n[1]);
                case "ofPerson": return x.ofPerson(n[0], n[1]);
                case "rank": return x.rank(n[0]);
                case "written": return x.written(n[0], n[1]);
                case "many": return x.many(n[0]);
                default: throw new IllegalStateException(call);
            }
        }

        /** The answers of call(k) or, with whats, of call(k, first) .. call(k, last). */
        void read(StringBuilder into, String call, int count, int... whats) {
            for (int k = 0; k < count; k++) {
                if (whats.length == 0) {
                    into.append(call(call + "(" + k + ")")).append(' ');
                    continue;
                }
                for (int what = whats[0]; what <= whats[1]; what++) {
                    into.append(call(call + "(" + k + ", " + what + ")")).append(' ');
                }
            }
            into.append(call).append('\n');
        }
    }

    private static int[] numbersOf(String call) {
        String inside = call.substring(call.indexOf('(') + 1, call.indexOf(')'));
        return inside.isEmpty() ? new int[0]
                : Arrays.stream(inside.split(", ")).mapToInt(Integer::parseInt).toArray();
    }

    /** All that can be read behind some calls, from several objects, as one has but 512 calls. */
    private static String readingsOf(List<String> calls) {
        StringBuilder into = new StringBuilder();
        Player one = new Player(calls);
        one.read(into, "many", 9);
        int count = (int) one.call("many(1)");
        one.read(into, "rank", 8);
        one.read(into, "conflict", 2);
        one.read(into, "ofPerson", 8, 0, 5);
        one.read(into, "run", 9, 0, 2);
        into.append(one.call("ways()")).append(' ').append(one.call("asked()")).append('\n');
        Player two = new Player(calls);
        two.read(into, "ofParagraph", count, 0, 5);
        two.read(into, "set", count, 0, 2);
        two.read(into, "link", count);
        Player three = new Player(calls);
        three.read(into, "would", count, 0, 7);
        new Player(calls).read(into, "written", count, -1, 14);
        readTape(into, new Player(calls), count);
        return into.toString();
    }

    /** What is on the TAPE is seen by the PARAGRAPH that it makes, or by its fault. */
    private static void readTape(StringBuilder into, Player x, int count) {
        int place = count;
        if (count == 16) {
            into.append(x.call("cut()")).append(' ');
            place = 15;
        }
        into.append(x.call("paragraph()")).append(' ').append(x.call("wipe()")).append(' ');
        for (int what = 0; what < 6; what++) {
            into.append(x.call("ofParagraph(" + place + ", " + what + ")")).append(' ');
        }
        into.append(x.call("set(" + place + ", 0)")).append('\n');
        x.read(into, "away", 8);
    }

    // ---- what it is

    private static void whatItIs() {
        of("An object is used for at most 512 calls after it has been made: the 512th too answers");
        Scene long511 = with("hs", "qvA", "q").keys("q");
        while (long511.calls.size() < MOST_CALLS - 2) {
            long511 = long511.then("many(6)");
        }
        long511 = long511.then("key(111)");
        due(long511.calls, "calls", long511.calls.size(), MOST_CALLS - 1);
        long511.answers("paragraph()", 2).answers("key(113)", 3).answers("wipe()", 2)
                .answers("set(1, 1)", 2).answers("set(1, 2)", 2).answers("ways()", 1)
                .answers("would(1, 1)", 1).answers("person(2, 0)", NONE).answers("cut()", 1)
                .answers("hint(0, 2)", 2).answers("written(1, 0)", 'B').answers("rank(0)", 0)
                .answers("away(1)", 1).answers("away(0)", STATE);
        Scene fullest = full();
        while (fullest.calls.size() < MOST_CALLS - 1) {
            fullest = fullest.then("hint(15, 255)");
        }
        fullest.answers("hint(15, 128)", 2).answers("paragraph()", FULL).answers("cut()", 15)
                .answers("ways()", 8 * SEVEN_BY_15).answers("written(0, -1)", 15);
        of("An object is used for at most 512 calls: of each call as many as there is room for");
        around("person(2, 2)", "person(2, 0)", "away(2)");
        around("here(1)", "here(3)");
        around("rules(7)", "rules(15)");
        around("key(113)", "key(111)", "paragraph()", "cut()");
        around("key(113)", "key(33)", "paragraph()", "wipe()");
        around("key(113)", "wipe()");
        around("key(113)", "key(0)", "key(1)", "key(2)", "key(3)", "key(4)", "key(5)", "key(6)",
                "key(7)", "key(8)", "key(9)", "key(127)", "wipe()");
        around("hint(0, 2)", "hint(0, -9)");
        around("set(1, 0)", "set(1, 1)", "set(1, 2)", "link(1)");
        around("ways()", "would(1, 1)", "conflict(0)", "conflict(1)", "asked()", "run(0, 2)");
        around("ofPerson(1, 3)", "rank(0)", "written(1, 0)", "many(4)", "ofParagraph(0, 4)");
        around("person(8, 0)", "away(0)", "here(4)", "rules(16)", "key(128)", "hint(2, 1)", "set(0, 3)");
    }

    /** Calls that leave all as it was answer the same, however often they have been made. */
    private static void around(String... calls) {
        List<String> ahead = with("hs", "qvA", "q").calls;
        Player x = new Player(ahead);
        long[] first = new long[calls.length];
        for (int i = 0; i < calls.length; i++) {
            first[i] = x.call(calls[i]);
        }
        for (int i = 0; x.made < MOST_CALLS; i = (i + 1) % calls.length) {
            String call = "call " + (x.made + 1) + ", " + calls[i];
            due(ahead, call, x.call(calls[i]), first[i]);
        }
    }

    /** All 8 PEOPLE, 16 PARAGRAPHS of 12 codes each: as full as it can be, the TAPE empty. */
    private static Scene full() {
        return with("hsnhsnhs").repeats(16, "qqqqqqqqqqqq");
    }

    // ---- 1 people, paragraphs

    private static void newObject() {
        of("1: No PEOPLE, no PARAGRAPHS, the TAPE is empty; HERE empty, RULES 15 at first");
        int[] first = {0, 0, 0, 0, 0, 0, 0, 0, 15};
        for (int what = 0; what < first.length; what++) {
            NEW.tells("many(" + what + ")", first[what]);
        }
        for (int p = 0; p < 8; p++) {
            NEW.refuses("ofPerson(" + p + ", 0)", UNKNOWN).refuses("away(" + p + ")", UNKNOWN)
                    .answers("person(" + p + ", 2)", NONE).tells("rank(" + p + ")", NONE);
        }
        NEW.refuses("ofParagraph(0, 0)", UNKNOWN).refuses("set(0, 0)", UNKNOWN)
                .refuses("hint(0, 1)", UNKNOWN).refuses("link(0)", UNKNOWN)
                .refuses("would(0, 0)", UNKNOWN).refuses("run(0, 0)", UNKNOWN)
                .refuses("written(0, 0)", UNKNOWN).refuses("cut()", STATE)
                .refuses("paragraph()", -100).answers("wipe()", 0).answers("key(0)", 1)
                .answers("here(0)", 0).answers("rules(15)", 15);
        of("14, 16, 17: 1 WAY, if no PARAGRAPH SPEAKS; no CONFLICT, nothing ASKED");
        NEW.tells("ways()", 1).tells("conflict(0)", NONE).tells("conflict(1)", NONE)
                .tells("asked()", NONE);
        of("1: a new object has nothing of another one");
        WhoSpeaks other = new WhoSpeaks();
        other.person(3, 1);
        other.key('q');
        due(List.of("another object"), "many(0)", new WhoSpeaks().many(0), 0);
        due(List.of("another object"), "many(6)", new WhoSpeaks().many(6), 0);
        due(List.of("a new object"), "many(0)", other.many(0), 1);
    }

    private static void person() {
        Scene two = with("h......s", "qvh").keys("q");
        of("2: UNKNOWN: p is not 0 .. 7");
        for (int p : new int[] {-1, 8, 255, NONE, MIN, MAX}) {
            two.refuses("person(" + p + ", 0)", UNKNOWN);
            NEW.refuses("person(" + p + ", 2)", UNKNOWN);
        }
        of("2: OUTSIDE: a SORT is 0, 1, 2");
        for (int sort : new int[] {-1, 3, NONE, MIN, MAX}) {
            two.refuses("person(0, " + sort + ")", OUTSIDE);
            two.refuses("person(3, " + sort + ")", OUTSIDE);
        }
        of("2: of UNKNOWN and OUTSIDE the first one");
        two.refuses("person(8, 3)", UNKNOWN).refuses("person(-1, -1)", UNKNOWN)
                .refuses("person(" + MAX + ", " + MIN + ")", UNKNOWN);
        of("2: NONE: it was not there; else the SORT that it had");
        for (int p : new int[] {0, 7}) {
            for (int sort = 0; sort < 3; sort++) {
                String call = "person(" + p + ", " + sort + ")";
                NEW.answers(call, NONE);
                NEW.then(call).answers(call, sort).answers("person(" + p + ", 2)", sort)
                        .tells("ofPerson(" + p + ", 0)", sort).tells("many(0)", 1);
            }
        }
        of("2: who went away was not there");
        NEW.then("person(4, 1)", "away(4)").answers("person(4, 0)", NONE);
        of("2: who comes is not HERE by that; who is HERE stays so with another SORT");
        two.then("person(3, 0)").tells("many(7)", 129).tells("ofPerson(3, 5)", 0);
        two.then("person(0, 1)").tells("many(7)", 129).tells("ofPerson(0, 5)", 1);
        of("2: one that is named takes another SORT too");
        with("hs", "qvA").answers("person(0, 2)", 0).then("person(0, 2)").tells("set(0, 0)", 1);
    }

    private static void away() {
        Scene all = with("hshn", "q", "qvh", "o", "q@B", "Ao").keys("qv");
        of("3: UNKNOWN: there is no such PERSON");
        for (int p : new int[] {-1, 4, 7, 8, NONE, 32, MIN, MAX}) {
            all.refuses("away(" + p + ")", UNKNOWN);
        }
        all.then("away(2)").refuses("away(2)", UNKNOWN);
        of("3: STATE: a PARAGRAPH names it, as a name, or as one to whom a QUOTE is spoken");
        all.refuses("away(0)", STATE).refuses("away(1)", STATE);
        with("hs", "A").refuses("away(0)", STATE).answers("away(1)", 0);
        with("hs", "q@B").refuses("away(1)", STATE).answers("away(0)", 1);
        with("h......h", "H").refuses("away(7)", STATE);
        with("hsn", "Aq@B").refuses("away(0)", STATE).refuses("away(1)", STATE).answers("away(2)", 1);
        with("hsn", "q@AB").refuses("away(0)", STATE).refuses("away(1)", STATE);
        with("hsn", "q@Aq@B").refuses("away(0)", STATE).refuses("away(1)", STATE);
        with("hsn", "AB").refuses("away(0)", STATE).refuses("away(1)", STATE).answers("away(2)", 0);
        of("3: STATE: any PARAGRAPH, the first and the 16th");
        with("hs", "qA").repeats(15, "o").refuses("away(0)", STATE);
        with("hs").repeats(15, "o").writes("qqqqqqqqqqqB").refuses("away(1)", STATE)
                .answers("away(0)", 1);
        with("hs").repeats(15, "o").writes("qqqqqqqqqq@B").refuses("away(1)", STATE);
        of("3: a name on the TAPE, or of a PARAGRAPH that was cut, names nobody");
        with("hs").keys("qvA").answers("away(0)", 0).then("away(0)").refuses("paragraph()", -102)
                .then("person(0, 0)").answers("paragraph()", 0);
        with("hs", "q", "qvA").refuses("away(0)", STATE).then("cut()").answers("away(0)", 1);
        with("hs", "q", "q@A").refuses("away(0)", STATE).then("cut()").answers("away(0)", 1);
        of("3: STATE does not come by a HINT");
        with("hs", "q").then("hint(0, 1)").answers("away(0)", 1);
        of("3: in how many OWN sets it was: from none to 16");
        with("hs", "o").answers("away(0)", 0);
        with("hs").then("here(2)").writes("q", "q").answers("away(0)", 0).answers("away(1)", 2);
        full().answers("away(0)", 16).answers("away(7)", 16);
        of("3: in how many OWN sets it was, by RULES as they are now");
        all.answers("away(2)", 3);
        with("hs", "qvs", "q").answers("away(0)", 1).then("rules(13)").answers("away(0)", 2);
        with("hsn", "Coq", "q").answers("away(0)", 1).then("rules(11)").answers("away(0)", 2);
        with("hs", "q", "q").then("hint(0, 2)").answers("away(0)", 1);
        of("3: OWN sets, not NARROWED or SURE ones");
        with("hsn", "qvA", "q", "qvA").answers("away(1)", 1).answers("away(2)", 1);
        with("hsn", "qvA", "qvA", "o", "q").answers("away(1)", 1);
        of("3: no more there (nor HERE), also when it comes back");
        all.then("away(2)").tells("many(0)", 3).tells("many(7)", 11).refuses("ofPerson(2, 5)", UNKNOWN)
                .refuses("would(0, 2)", UNKNOWN).refuses("here(4)", OUTSIDE)
                .then("person(2, 0)").tells("ofPerson(2, 5)", 0).tells("many(7)", 11);
        of("3: away of one that is not HERE leaves HERE");
        with("hsn").then("here(3)", "away(2)").tells("many(7)", 3);
    }

    private static void here() {
        Scene two = with("h......s", "q").keys("q");
        of("4: OUTSIDE: a set of PEOPLE that are there");
        for (int set : new int[] {2, 64, 130, 255, 256, 257, 1 << 30, -1, NONE, MIN, MAX}) {
            two.refuses("here(" + set + ")", OUTSIDE);
        }
        NEW.refuses("here(1)", OUTSIDE).refuses("here(128)", OUTSIDE).answers("here(0)", 0);
        two.then("away(7)").refuses("here(128)", OUTSIDE).refuses("here(129)", OUTSIDE);
        of("4: which it was: the empty set, one PERSON, all eight");
        two.answers("here(0)", 129).answers("here(1)", 129).answers("here(128)", 129)
                .answers("here(129)", 129);
        two.then("here(0)").answers("here(129)", 0).tells("many(7)", 0);
        with("hsnhsnhs").answers("here(0)", 255).then("here(0)").answers("here(255)", 0)
                .refuses("here(256)", OUTSIDE).refuses("here(511)", OUTSIDE);
        of("4: PARAGRAPHS keep the PEOPLE that were HERE as they came");
        two.then("here(128)").tells("ofParagraph(0, 3)", 129).tells("set(0, 0)", 129);
    }

    private static void rules() {
        Scene scene = with("hs", "qvA", "q").keys("o");
        of("5: OUTSIDE: RULES are a set of 1, 2, 4, 8");
        for (int set : new int[] {16, 17, 31, 255, -1, NONE, MIN, MAX}) {
            scene.refuses("rules(" + set + ")", OUTSIDE);
            scene.then("rules(0)").refuses("rules(" + set + ")", OUTSIDE);
        }
        of("5: which they were: each set from none to all");
        for (int set = 0; set < 16; set++) {
            scene.answers("rules(" + set + ")", 15).then("rules(" + set + ")")
                    .answers("rules(15)", set).tells("many(8)", set);
        }
    }

    private static void keyAndWipe() {
        Scene eleven = with("h", "q").keys("qqqqqqqqqqq");
        Scene twelve = eleven.keys("v");
        of("6: OUTSIDE: a code (0 .. 127)");
        for (int code : new int[] {-1, 128, 255, NONE, MIN, MAX}) {
            NEW.refuses("key(" + code + ")", OUTSIDE);
            eleven.refuses("key(" + code + ")", OUTSIDE);
        }
        NEW.answers("key(0)", 1).answers("key(127)", 1);
        eleven.answers("key(0)", 12).answers("key(127)", 12);
        of("6: FULL: the TAPE has up to 12 codes");
        twelve.refuses("key(113)", FULL).refuses("key(0)", FULL).refuses("key(127)", FULL)
                .tells("many(6)", 12);
        of("6: of OUTSIDE and FULL the first one");
        twelve.refuses("key(128)", OUTSIDE).refuses("key(-1)", OUTSIDE);
        of("6: how many: 1 to 12");
        Scene scene = NEW;
        for (int count = 1; count <= 12; count++) {
            scene.answers("key(113)", count);
            scene = scene.keys("q").tells("many(6)", count);
        }
        of("7: how many codes it had, of an empty TAPE and of a full one");
        NEW.answers("wipe()", 0);
        eleven.answers("wipe()", 11);
        twelve.answers("wipe()", 12).then("wipe()").answers("wipe()", 0).answers("key(113)", 1)
                .refuses("paragraph()", -100).tells("many(1)", 1);
        of("8: the TAPE is empty then, so that 12 codes have room again");
        twelve.then("paragraph()").answers("wipe()", 0).keys("qqqqqqqqqqqo").tells("many(6)", 12);
    }

    private static void paragraphFull() {
        Scene sixteen = full();
        of("8: FULL: there are 16");
        sixteen.keys("q").refuses("paragraph()", FULL);
        sixteen.keys("qqqqqqqqqqqq").refuses("paragraph()", FULL);
        of("8: FULL: the TAPE is not looked at");
        sixteen.refuses("paragraph()", FULL);
        sixteen.keys("!").refuses("paragraph()", FULL);
        sixteen.keys("q@").refuses("paragraph()", FULL);
        sixteen.keys("+").refuses("paragraph()", FULL);
        of("8: the TAPE stays, and is taken when there is room again");
        sixteen.keys("qvA").then("paragraph()").tells("many(6)", 3).then("cut()")
                .answers("paragraph()", 15);
        of("8: its number: 0 to 15");
        Scene scene = with("h");
        for (int k = 0; k < 16; k++) {
            scene.keys("o").answers("paragraph()", k).then("paragraph()").tells("many(1)", k + 1);
            scene = scene.writes("o");
        }
        of("8: a fault: no PARAGRAPH comes, the TAPE stays, and may go on");
        Scene two = with("hs", "q");
        two.keys("q@").refuses("paragraph()", -102).then("paragraph()").keys("B")
                .answers("paragraph()", 1);
        two.keys("+").refuses("paragraph()", -101).then("paragraph()").keys("q")
                .answers("paragraph()", 1);
        two.keys("+v").refuses("paragraph()", -102).then("paragraph()").keys("Aq")
                .answers("paragraph()", 1);
        two.keys("v!").refuses("paragraph()", -101).then("paragraph()").keys("q")
                .refuses("paragraph()", -101).tells("many(6)", 3);
    }

    private static void items(Scene scene, String text, int items, int quotes) {
        int k = (int) new Player(scene.calls).call("many(1)");
        scene.keys(text).answers("paragraph()", k).then("paragraph()")
                .tells("ofParagraph(" + k + ", 0)", items).tells("ofParagraph(" + k + ", 1)", quotes)
                .tells("many(6)", 0).tells("many(1)", k + 1);
    }

    private static void texts() {
        Scene all = with("hsnhsnhs", "q");
        of("TEXT: one ITEM or more");
        for (String text : new String[] {"v", "o", "h", "s", "A", "H"}) {
            items(all, text, 1, 0);
        }
        items(all, "q", 1, 1);
        items(all, "q@A", 1, 1);
        items(all, "q@H", 1, 1);
        of("TEXT: as many ITEMS as a full TAPE has");
        items(all, "oooooooooooo", 12, 0);
        items(all, "qqqqqqqqqqqq", 12, 12);
        items(all, "+qqqqqqqqqqq", 11, 11);
        items(all, "q@Aq@Bq@Hq@A", 4, 4);
        items(all, "oooooooooq@H", 10, 1);
        of("+ is no ITEM, nor is one to whom a QUOTE is spoken");
        items(all, "+q", 1, 1);
        items(all, "+q@H", 1, 1);
        items(all, "q@AA", 2, 1);
        items(all, "q@Aqq@H", 3, 3);
        of("TEXT: a PARAGRAPH may go without people there");
        items(NEW, "q", 1, 1);
        items(NEW, "vohs", 4, 0);
    }

    private static Scene fault(Scene scene, String text, int place) {
        return scene.keys(text).refuses("paragraph()", -100 - place);
    }

    private static void goingOn() {
        Scene none = with("hs");
        Scene quiet = with("hs", "q", "vAo");
        Scene loud = with("hs", "vA", "oq@A");
        of("+ may be there only, if there is a PARAGRAPH");
        fault(none, "+q", 0);
        fault(none, "+", 0);
        fault(none, "+o", 0);
        fault(with("hs", "q").then("cut()"), "+q", 0);
        of("+ may be there only, if the last one has a QUOTE");
        fault(quiet, "+q", 0);
        fault(quiet, "+", 0);
        quiet.then("cut()").keys("+q").answers("paragraph()", 1);
        loud.keys("+q").answers("paragraph()", 2);
        loud.writes("+q").keys("+q").answers("paragraph()", 3);
        of("+ may be there only, if the TEXT has a QUOTE itself, wherever");
        fault(loud, "+o", 2);
        fault(loud, "+vohsAB", 7);
        fault(loud, "+ooooooooooo", 12);
        loud.keys("+ooooooooooq").answers("paragraph()", 2);
        loud.keys("+qoooooooooo").answers("paragraph()", 2);
        loud.keys("+oq@Bo").answers("paragraph()", 2);
        of("+ or nothing: + stands first, and once");
        fault(loud, "q+", 1);
        fault(loud, "q+q", 1);
        fault(loud, "++q", 1);
        fault(loud, "+q+", 2);
        of("whether a PARAGRAPH may go ON is seen as it comes, not as its codes do");
        none.keys("+q").refuses("paragraph()", -100).then("wipe()").writes("q").keys("+q")
                .answers("paragraph()", 1).then("cut()").refuses("paragraph()", -100);
    }

    private static void firstFaults() {
        Scene two = with("h.s");
        of("FIRST FAULT: how many codes there are, if it just ends too soon: an empty TAPE");
        fault(NEW, "", 0);
        fault(two, "", 0);
        fault(two.writes("q"), "", 0);
        of("FIRST FAULT: .. one with + alone");
        fault(two.writes("q"), "+", 1);
        fault(NEW.writes("q"), "+", 1);
        of("FIRST FAULT: .. one that ends with @, whoever is there");
        for (Scene scene : new Scene[] {NEW, two, with("h").then("away(0)")}) {
            fault(scene, "q@", 2);
            fault(scene, "voq@", 4);
            fault(scene, "qqqqqqqqqqq@", 12);
            fault(scene.writes("q"), "+q@", 3);
        }
        fault(two, "q@Aq@", 5);
        of("FIRST FAULT: .. one that begins with + and has no QUOTE");
        fault(two.writes("q"), "+A", 2);
        fault(two.writes("q"), "+Avo", 4);
        of("FIRST FAULT: the first code with which no TEXT goes on, whatever comes behind it");
        fault(two, "!", 0);
        fault(two, "!q", 0);
        fault(two, "q!q!", 1);
        fault(two, "@", 0);
        fault(two, "@A", 0);
        fault(two, "q@A@C", 3);
        fault(two, "q@@A", 2);
        fault(two, "q@qA", 2);
        fault(two, "q@+", 2);
        fault(two, "A@A", 1);
        fault(two, "v@A", 1);
        fault(two, "qo@", 2);
        fault(two, "qqqqqqqqqqq!", 11);
        fault(two, "oooooooooooB", 11);
        fault(two.writes("q"), "+!", 1);
        fault(two.writes("q"), "+@", 1);
        fault(two.writes("q"), "+o!q", 2);
        fault(two.writes("q"), "+o@", 2);
        of("A name is a letter A .. H of a PERSON that is there");
        fault(two, "B", 0);
        fault(two, "D", 0);
        fault(two, "q@B", 2);
        fault(two, "qvB", 2);
        fault(two.then("away(2)"), "qvC", 2);
        fault(two.then("away(2)"), "q@C", 2);
        fault(NEW, "A", 0);
        fault(NEW, "q@A", 2);
        fault(with("hsnhsnhs"), "I", 0);
        fault(with("hsnhsnhs"), "a", 0);
        fault(with("hsnhsnhs"), "q@I", 2);
        fault(with("hsnhsnhs"), "q@h", 2);
        two.then("here(0)").keys("qvAq@C").answers("paragraph()", 0);
        of("A name is one of a PERSON that is there as the PARAGRAPH comes");
        NEW.keys("q@H").refuses("paragraph()", -102).then("person(7, 2)").answers("paragraph()", 0);
    }

    /** Each of the 128 codes in each place where the document says another thing of it. */
    private static void everyCode() {
        Scene scene = with("h.n....s", "q");
        of("An ITEM is: q; q, @ and a name; v; o; h; s; a name: and no other of the 128 codes");
        for (int code = 0; code < 128; code++) {
            char sign = (char) code;
            boolean name = "ACH".indexOf(sign) >= 0;
            boolean item = name || "qvohs".indexOf(sign) >= 0;
            codeAnswers(scene, "", sign, item ? 1 : sign == '+' ? -101 : -100);
            codeAnswers(scene, "v", sign, item ? 1 : -101);
            codeAnswers(scene, "q", sign, item ? 1 : sign == '@' ? -102 : -101);
            codeAnswers(scene, "q@", sign, name ? 1 : -102);
            codeAnswers(scene, "q@A", sign, item ? 1 : -103);
            codeAnswers(scene, "+", sign, sign == 'q' ? 1 : item ? -102 : -101);
            codeAnswers(scene, "qqqqqqqqqqq", sign, item ? 1 : sign == '@' ? -112 : -111);
        }
    }

    private static void codeAnswers(Scene scene, String ahead, char sign, int want) {
        scene.keys(ahead + sign).answers("paragraph()", want);
    }

    private static void cut() {
        of("9: STATE: there is none");
        NEW.refuses("cut()", STATE);
        with("hs").keys("q").refuses("cut()", STATE);
        with("hs", "q").then("cut()").refuses("cut()", STATE);
        of("9: how many are left: 15 to 0");
        Scene scene = full();
        for (int left = 15; left >= 0; left--) {
            scene.answers("cut()", left);
            scene = scene.then("cut()");
            scene.tells("many(1)", left).refuses("ofParagraph(" + left + ", 0)", UNKNOWN);
        }
        scene.refuses("cut()", STATE).tells("ways()", 1);
        of("9: the last PARAGRAPH is no more, nor are its HINT and what it says of others");
        Scene three = with("hs", "q", "q", "qvA").then("hint(2, 1)").keys("v");
        three.tells("many(5)", 1).tells("set(1, 2)", 2).tells("set(0, 2)", 1);
        three.then("cut()").tells("many(5)", 0).tells("set(1, 2)", 3).tells("set(0, 1)", 3)
                .refuses("set(2, 0)", UNKNOWN).tells("many(6)", 1).tells("many(7)", 3)
                .then("wipe()").writes("q").tells("ofParagraph(2, 5)", NONE).tells("set(2, 0)", 3)
                .tells("many(5)", 0).tells("ofParagraph(2, 4)", 0);
        of("9: what stood where another comes leaves nothing to it");
        String[] gone = {"q@A", "qvA", "qvh", "qvs", "Aoq", "+q", "+q@Bqvh", "vAo", "qqqqqqqqqqqq"};
        for (String text : gone) {
            Scene again = with("hsn", "q", text).then("hint(1, 1)", "cut()").writes("q");
            int[] want = {1, 1, 0, 7, 0, NONE};
            for (int what = 0; what < want.length; what++) {
                again.answers("ofParagraph(1, " + what + ")", want[what]);
            }
            again.row("set", 0, 7, 7).row("set", 1, 7, 7).answers("link(1)", 2).answers("ways()", 6)
                    .answers("away(0)", 2).answers("away(1)", 2);
        }
        with("hsn", "q", "q").then("hint(1, 1)", "here(2)", "cut()").writes("o")
                .tells("set(1, 0)", NONE).tells("many(2)", 1).tells("many(5)", 0)
                .tells("ofParagraph(1, 3)", 2).answers("away(0)", 1);
    }

    private static void ofParagraph() {
        Scene scene = with("hs", "qvA", "+q@B", "Ao").then("hint(1, 255)").keys("q");
        of("10: UNKNOWN: there is no such PARAGRAPH");
        for (int k : new int[] {-1, 3, 16, NONE, MIN, MAX}) {
            scene.refuses("ofParagraph(" + k + ", 0)", UNKNOWN);
        }
        full().refuses("ofParagraph(16, 0)", UNKNOWN).tells("ofParagraph(15, 0)", 12);
        of("10: OUTSIDE: what is 0 .. 5");
        for (int what : new int[] {-1, 6, NONE, MIN, MAX}) {
            scene.refuses("ofParagraph(0, " + what + ")", OUTSIDE);
            scene.refuses("ofParagraph(2, " + what + ")", OUTSIDE);
        }
        of("10: of UNKNOWN and OUTSIDE the first one");
        scene.refuses("ofParagraph(3, 6)", UNKNOWN).refuses("ofParagraph(-1, -1)", UNKNOWN);
        of("10: 0 to 5, of one that does not SPEAK too");
        scene.row("ofParagraph", 0, 3, 1, 2).row("ofParagraph", 1, 1, 1, 0)
                .row("ofParagraph", 2, 0, 1, 0).row("ofParagraph", 3, 3, 3, 3)
                .row("ofParagraph", 4, 1, 0, 0).row("ofParagraph", 5, NONE, 255, NONE);
        of("10: 3 the PEOPLE that were HERE: nobody, all eight");
        NEW.writes("q").tells("ofParagraph(0, 3)", 0);
        full().tells("ofParagraph(15, 3)", 255);
        with("hs", "q").then("away(1)").tells("ofParagraph(0, 3)", 3);
        of("10: 4 how many VERBS COUNT: none to all, with VERBS off too");
        with("hs", "vAvB").tells("ofParagraph(0, 4)", 0);
        with("hs", "qvAqvAqvAqvA").tells("ofParagraph(0, 4)", 4).then("rules(0)")
                .tells("ofParagraph(0, 4)", 4);
        with("hs", "vAqAvvAqAvvA").tells("ofParagraph(0, 4)", 4);
        of("10: 5 its HINT (NONE): 1 and 255 are told as they are");
        with("h", "q").tells("ofParagraph(0, 5)", NONE).then("hint(0, 1)")
                .tells("ofParagraph(0, 5)", 1).then("hint(0, -9)").tells("ofParagraph(0, 5)", NONE);
    }

    // ---- 2 sets

    private static void set() {
        Scene scene = with("hs", "qvA", "o", "q").keys("q");
        of("11: UNKNOWN: there is no such PARAGRAPH");
        for (int k : new int[] {-1, 3, 16, NONE, MIN, MAX}) {
            scene.refuses("set(" + k + ", 0)", UNKNOWN);
        }
        full().refuses("set(16, 1)", UNKNOWN).tells("set(15, 1)", 255);
        of("11: OUTSIDE: what is 0, 1, 2");
        for (int what : new int[] {-1, 3, NONE, MIN, MAX}) {
            scene.refuses("set(0, " + what + ")", OUTSIDE);
        }
        of("11: of UNKNOWN and OUTSIDE the first one; OUTSIDE of one that does not SPEAK");
        scene.refuses("set(3, 3)", UNKNOWN).refuses("set(-1, -1)", UNKNOWN)
                .refuses("set(1, 3)", OUTSIDE).refuses("set(1, -1)", OUTSIDE);
        of("11: NONE: it does not SPEAK");
        scene.tells("set(1, 0)", NONE).tells("set(1, 1)", NONE).tells("set(1, 2)", NONE);
        with("hs", "vAvB").tells("set(0, 0)", NONE);
        of("11: an empty set is 0, not NONE; PERSON 7 is bit 7");
        NEW.writes("q").tells("set(0, 0)", 0).tells("set(0, 1)", 0).tells("set(0, 2)", 0);
        with("hsnhsnhs", "qvH").tells("set(0, 0)", 128).tells("set(0, 1)", 128)
                .tells("set(0, 2)", 128);
    }

    private static void own(Scene scene, String text, int count, int want) {
        int k = (int) new Player(scene.calls).call("many(1)");
        scene.writes(text).tells("ofParagraph(" + k + ", 4)", count).tells("set(" + k + ", 0)", want);
    }

    private static void ownByHere() {
        of("OWN: the PEOPLE that were HERE as it came: nobody, all eight");
        NEW.writes("q").tells("set(0, 0)", 0);
        full().tells("set(0, 0)", 255);
        of("OWN: .. as it came: who comes HERE or goes behind it changes nothing");
        with("hsn").then("here(3)").writes("q").then("here(4)").tells("set(0, 0)", 3)
                .then("here(0)").tells("set(0, 0)", 3).then("person(3, 0)", "here(8)")
                .tells("set(0, 0)", 3);
        of("OWN: .. and are there now: without who went away, with who came back");
        with("hsn", "q").then("away(2)").tells("set(0, 0)", 3).then("person(2, 1)")
                .tells("set(0, 0)", 7).tells("set(0, 2)", 7);
        with("h", "q").then("away(0)").tells("set(0, 0)", 0).tells("ways()", 0);
    }

    private static void ownByRules() {
        Scene all = with("hsn");
        of("SPOKEN TO: without each to whom one of its QUOTES is spoken: one, several, all, again");
        own(all, "q@A", 0, 6);
        own(all, "q@Aq@C", 0, 2);
        own(all, "q@Aq@Bq@C", 0, 0);
        own(all, "q@Aqq@A", 0, 6);
        own(all.then("here(6)"), "q@A", 0, 6);
        own(with("hsnhsnhs"), "q@H", 0, 127);
        of("VERBS: the ITEM next behind it, if that is a WHO; else the one next ahead; else none");
        own(all, "qvA", 1, 1);
        own(all, "qBvA", 0, 7);
        own(all, "BvAq", 1, 1);
        own(all, "Bvq", 1, 2);
        own(all, "qBv", 1, 2);
        own(all, "vq", 0, 7);
        own(all, "qv", 0, 7);
        own(all, "qvo", 0, 7);
        own(all, "qvv", 0, 7);
        own(all, "qvvA", 0, 7);
        own(all, "qAvv", 1, 1);
        own(all, "Aqv", 0, 7);
        of("VERBS: one to whom a QUOTE is spoken is no ITEM, so no WHO");
        own(all, "q@Av", 0, 6);
        own(all, "q@AvB", 1, 2);
        own(all, "q@AvA", 1, 0);
        own(all, "vAq@A", 1, 0);
        of("VERBS: COUNTS, if the ITEM next ahead of the two, or next behind the two, is a QUOTE");
        own(all, "vAq", 1, 1);
        own(all, "Avq", 1, 1);
        own(all, "qAv", 1, 1);
        own(all, "qvAq", 1, 1);
        own(all, "qovA", 0, 7);
        own(all, "vAoq", 0, 7);
        own(all, "qAvo", 1, 1);
        own(all, "oAvq@B", 1, 1);
        own(all, "vAvq", 1, 1);
        own(all, "qvAv", 1, 1);
        own(all, "vAqv", 1, 1);
        of("VERBS: at the ends of a full TAPE");
        own(all, "qqqqqqqqqqvC", 1, 4);
        own(all, "vCqqqqqqqqqq", 1, 4);
        own(all, "qqqqqqqqqCCv", 0, 7);
        own(all, "qqqqqqqqqqCv", 1, 4);
        of("VERBS: of each that COUNTS: a name: only that PERSON");
        own(all, "qvAqvA", 2, 1);
        own(all, "qvAqvB", 2, 0);
        own(all.then("here(6)"), "qvA", 1, 0);
        of("VERBS: he, she: only those of that SORT; neither is no one of them");
        own(all, "qvh", 1, 1);
        own(all, "qvs", 1, 2);
        own(all, "qvhqvs", 2, 0);
        own(all, "qvhqvA", 2, 1);
        own(all, "qvsqvA", 2, 0);
        own(with("nn"), "qvh", 1, 0);
        own(with("nn"), "qvs", 1, 0);
        own(with("hsnhsnhs"), "qvs", 1, 146);
        of("VERBS: of that SORT (as it is now)");
        with("hhs", "qvh").tells("set(0, 0)", 3).then("person(1, 1)").tells("set(0, 0)", 1)
                .then("person(2, 0)").tells("set(0, 0)", 5).then("person(0, 2)")
                .tells("set(0, 0)", 4);
        of("DOING: if its first ITEM is a name, the second OTHER words: only that PERSON");
        own(all, "Aoq", 0, 1);
        own(all, "qAo", 0, 7);
        own(all, "oAq", 0, 7);
        own(all, "Aq", 0, 7);
        own(all, "Aqo", 0, 7);
        own(all, "ABoq", 0, 7);
        own(all, "hoq", 0, 7);
        own(all, "Avoq", 0, 7);
        own(all, "Aoq@A", 0, 0);
        own(all.then("here(6)"), "Aoq", 0, 0);
        own(all.writes("q"), "+Boq", 0, 2);
        own(with("hsnhsnhs"), "Hoooooooooq", 0, 128);
        of("DOING: if no VERB of it COUNTS (by VERBS, be that RULE on or not)");
        own(all, "AoqvB", 1, 2);
        own(all, "Aoqov", 0, 1);
        own(all, "AoqovB", 0, 1);
        own(all.then("rules(4)"), "AoqvB", 1, 7);
        own(all.then("rules(4)"), "AoqovB", 0, 1);
        own(all.then("rules(2)"), "Aoq", 0, 7);
        of("RULES as they are now: each alone, none, all");
        Scene scene = with("hsn", "Aoq@B", "q@CvA");
        int[][] want = {{7, 7}, {5, 3}, {7, 1}, {5, 1}, {1, 7}, {1, 3}, {1, 1}, {1, 1}};
        for (int set = 0; set < 16; set++) {
            scene.then("rules(" + set + ")").tells("set(0, 0)", want[set & 7][0])
                    .tells("set(1, 0)", want[set & 7][1]);
        }
    }

    private static void ownByHint() {
        of("OWN: if it has a HINT: only those of the HINT, whatever RULES are on");
        Scene scene = with("hsn", "q@A", "q");
        scene.then("hint(0, 3)").tells("set(0, 0)", 2).then("rules(0)").tells("set(0, 0)", 3);
        scene.then("hint(0, 255)").tells("set(0, 0)", 6);
        scene.then("hint(0, 1)").tells("set(0, 0)", 0);
        scene.then("hint(0, 128)").tells("set(0, 0)", 0);
        of("OWN: a HINT brings nobody who was not HERE, and waits for who is not there");
        scene.then("person(3, 0)", "here(15)", "hint(0, 8)").tells("set(0, 0)", 0);
        scene.then("hint(1, 4)", "away(2)").tells("set(1, 0)", 0).tells("ofParagraph(1, 5)", 4)
                .then("person(2, 0)").tells("set(1, 0)", 4);
    }

    private static void hint() {
        Scene scene = with("hs", "q", "q", "o", "q").then("hint(3, 1)").keys("q");
        of("12: UNKNOWN: there is no such PARAGRAPH");
        for (int k : new int[] {-1, 4, 16, NONE, MIN, MAX}) {
            scene.refuses("hint(" + k + ", 1)", UNKNOWN).refuses("hint(" + k + ", -9)", UNKNOWN);
        }
        full().refuses("hint(16, 1)", UNKNOWN).answers("hint(15, 1)", 2);
        of("12: OUTSIDE: a set (1 .. 255), or none (NONE)");
        for (int set : new int[] {0, 256, -1, -8, -10, MIN, MAX}) {
            scene.refuses("hint(0, " + set + ")", OUTSIDE).refuses("hint(3, " + set + ")", OUTSIDE);
        }
        scene.answers("hint(0, 1)", 2).answers("hint(0, 255)", 0).answers("hint(0, -9)", 0);
        of("12: STATE: it does not SPEAK");
        scene.refuses("hint(2, 1)", STATE).refuses("hint(2, 255)", STATE)
                .refuses("hint(2, -9)", STATE);
        of("12: of UNKNOWN, OUTSIDE and STATE the first one");
        scene.refuses("hint(4, 0)", UNKNOWN).refuses("hint(-1, 256)", UNKNOWN)
                .refuses("hint(2, 0)", OUTSIDE).refuses("hint(2, 256)", OUTSIDE);
        of("12: how many NARROWED sets become other ones by that: none");
        scene.answers("hint(3, 1)", 0).answers("hint(3, 3)", 1).answers("hint(1, 3)", 0);
        scene.then("hint(1, 1)").answers("hint(1, 1)", 0);
        of("12: .. OWN sets that change alone are not counted");
        with("hsn", "qvA", "q").tells("set(1, 1)", 6).answers("hint(1, 6)", 0)
                .then("hint(1, 6)").tells("set(1, 0)", 6).tells("many(5)", 1);
        of("12: .. all 16, there and back");
        Scene sixteen = with("hs").repeats(16, "q");
        sixteen.answers("hint(0, 1)", 16).answers("hint(15, 2)", 16).then("hint(7, 1)")
                .answers("hint(7, 2)", 16).answers("hint(7, -9)", 16).answers("hint(8, 2)", 0);
        with("hs", "q").repeats(15, "+q").answers("hint(15, 2)", 16);
        of("12: .. those that become empty too");
        // 7 and 8 are both A's, so empty; 0 .. 6 are as they were, 9 .. 15 go by 8 now.
        sixteen.then("hint(7, 1)").answers("hint(8, 1)", 9);
        of("12: .. not beyond one that does not SPEAK, nor those that are LINKED by nothing");
        with("hs", "q", "q", "o", "q", "q").answers("hint(1, 1)", 2).then("rules(7)")
                .answers("hint(1, 1)", 1);
        of("12: a HINT of somebody who is not there is one too");
        scene.answers("hint(0, 128)", 1).then("hint(0, 128)").tells("ofParagraph(0, 5)", 128)
                .tells("many(5)", 2).tells("conflict(0)", 0);
        of("12: or it has none (NONE)");
        scene.answers("hint(3, -9)", 1).then("hint(3, -9)").tells("ofParagraph(3, 5)", NONE)
                .tells("many(5)", 0).tells("set(3, 0)", 3);
    }

    private static void links(Scene scene, int... want) {
        for (int k = 0; k < want.length; k++) {
            scene.tells("link(" + k + ")", want[k]);
        }
    }

    private static void link() {
        Scene scene = with("hs", "q", "q", "+q", "o", "q", "vA", "o").keys("q");
        of("13: UNKNOWN: there is no such PARAGRAPH");
        for (int k : new int[] {-1, 7, 16, NONE, MIN, MAX}) {
            scene.refuses("link(" + k + ")", UNKNOWN);
        }
        full().refuses("link(16)", UNKNOWN).tells("link(15)", 2).tells("link(0)", 0);
        of("LINKS: PARAGRAPHS that both SPEAK: LIKE, if k goes ON; else UNLIKE, if TURNS is on");
        links(scene, 0, 2, 1, 0, 0, 0, 0);
        links(scene.then("rules(8)"), 0, 2, 1, 0, 0, 0, 0);
        links(scene.then("rules(7)"), 0, 0, 1, 0, 0, 0, 0);
        links(scene.then("rules(0)"), 0, 0, 1, 0, 0, 0, 0);
        of("LINKS: the first PARAGRAPH has none ahead of it, behind a cut one too");
        with("hs", "q", "+q").then("cut()", "cut()").writes("q").tells("link(0)", 0);
    }

    private static void rounds() {
        of("NARROWED: two that are UNLIKE, both of the same one PERSON, both become empty");
        with("hs", "qvA", "qvA").row("set", 1, 0, 0);
        with("hs", "qvA", "qvA", "qvA").row("set", 1, 0, 0, 0);
        with("hsn", "qvA", "qvA", "q").row("set", 1, 0, 0, 6);
        with("hsn", "q", "qvA", "qvA").row("set", 1, 6, 0, 0);
        of("NARROWED: by all sets as they were ahead of the ROUND");
        with("hs", "q", "qvA", "q", "q", "qvA", "q").row("set", 1, 2, 1, 0, 0, 1, 2);
        with("hs", "qvA", "q", "q", "q", "qvB").row("set", 1, 1, 2, 0, 1, 2);
        with("hs", "qvA", "q", "qvA").row("set", 1, 1, 2, 1);
        with("hs", "qvA", "q", "qvB").row("set", 1, 1, 0, 2);
        of("NARROWED: an empty set next to one takes nothing, if UNLIKE, all, if LIKE");
        with("hs", "q", "q@Aq@B", "q").row("set", 1, 3, 0, 3);
        with("hs", "q", "+q@Aq@B", "+q").row("set", 1, 0, 0, 0);
        of("NARROWED: one that is UNLIKE and has two PEOPLE takes nothing");
        with("hsn", "q@C", "q", "q@C").row("set", 1, 3, 7, 3);
        of("NARROWED: ROUNDS, as long as any set changes by one: over all 16, from either end");
        Scene turns = with("hs").repeats(16, "q");
        for (int k = 0; k < 16; k++) {
            turns.then("hint(0, 1)").answers("set(" + k + ", 1)", k % 2 == 0 ? 1 : 2);
            turns.then("hint(15, 1)").answers("set(" + k + ", 1)", k % 2 == 0 ? 2 : 1);
        }
        Scene like = with("hsnhsnhs", "q").repeats(15, "+q");
        for (int k = 0; k < 16; k++) {
            like.then("hint(0, 128)").answers("set(" + k + ", 1)", 128);
            like.then("hint(15, 6)").answers("set(" + k + ", 1)", 6);
        }
        of("NARROWED: .. and both ways from the middle, over LIKE and UNLIKE");
        with("hs").repeats(7, "q").writes("+qvA", "+q").repeats(7, "q")
                .row("set", 1, 1, 2, 1, 2, 1, 2, 1, 1, 1, 2, 1, 2, 1, 2, 1, 2);
        of("SURE: none, if there is no WAY, of other RUNS too");
        with("hs", "q", "o", "qvA", "qvA").row("set", 2, 0, NONE, 0, 0).row("set", 1, 3, NONE, 0, 0);
        of("SURE: narrower than NARROWED, where no set has just one PERSON");
        with("hsn", "q@C", "+q", "q@B", "q@C").row("set", 2, 3, 3, 5, 3);
        with("hs", "q", "q", "q").then("here(1)").row("set", 2, 3, 3, 3);
        with("hsn", "q@C", "q@C", "q").row("set", 1, 3, 3, 7).row("set", 2, 3, 3, 7);
        Scene three = with("hsn").then("here(3)").writes("q").then("here(6)").writes("q")
                .then("here(3)").writes("+q@A");
        three.row("set", 0, 3, 6, 2).row("set", 1, 1, 2, 2).row("set", 2, 1, 2, 2);
    }

    // ---- 3 ways

    private static void ways() {
        of("14: 1, if no PARAGRAPH SPEAKS");
        with("hs").tells("ways()", 1);
        with("hs", "o", "vA").tells("ways()", 1);
        NEW.writes("o").tells("ways()", 1);
        of("14: none, if somebody has to speak and nobody can");
        NEW.writes("q").tells("ways()", 0);
        with("h", "q", "q").tells("ways()", 0);
        with("h", "q").then("away(0)").tells("ways()", 0);
        with("hs", "q", "o", "q@Aq@B").tells("ways()", 0);
        of("14: one PERSON alone");
        with("h", "q").tells("ways()", 1);
        with("h", "q", "+q").tells("ways()", 1);
        with("h", "q", "o", "q").tells("ways()", 1);
        of("14: as many as there can be: 16 PARAGRAPHS, 8 PEOPLE");
        full().tells("ways()", 8 * SEVEN_BY_15).then("rules(7)").tells("ways()", 281474976710656L);
        with("hsnhsnhs", "q").repeats(15, "+q").tells("ways()", 8).then("rules(0)").tells("ways()", 8);
    }

    private static void would() {
        Scene scene = with("hsn", "qvA", "q", "o", "q@B").keys("q");
        of("15: UNKNOWN: k");
        for (int k : new int[] {-1, 4, 16, NONE, MIN, MAX}) {
            scene.refuses("would(" + k + ", 0)", UNKNOWN);
        }
        full().refuses("would(16, 0)", UNKNOWN).tells("would(15, 7)", SEVEN_BY_15).tells("would(0, 0)", SEVEN_BY_15);
        of("15: UNKNOWN: p");
        for (int p : new int[] {-1, 3, 7, 8, 32, NONE, MIN, MAX}) {
            scene.refuses("would(0, " + p + ")", UNKNOWN).refuses("would(2, " + p + ")", UNKNOWN);
        }
        of("15: UNKNOWN: k, p");
        scene.refuses("would(4, 3)", UNKNOWN).refuses("would(-1, -1)", UNKNOWN)
                .refuses("would(" + MIN + ", " + MAX + ")", UNKNOWN);
        of("15: 0, if it does not SPEAK");
        scene.tells("would(2, 0)", 0).tells("would(2, 2)", 0);
        of("15: 0, if it does not SPEAK, where one stood ahead of it that did");
        with("hs", "q").then("ways()", "asked()", "set(0, 1)", "cut()").writes("o")
                .tells("would(0, 0)", 0).tells("would(0, 1)", 0).tells("asked()", NONE)
                .tells("ways()", 1).tells("ofPerson(0, 2)", 0).tells("set(0, 2)", NONE);
        with("h", "q").then("ways()", "cut()").writes("o").tells("many(4)", 0)
                .tells("ofPerson(0, 1)", 0).tells("ofPerson(0, 3)", NONE).signs(0, ".");
        of("15: 0, if it is no one of the OWN set, or there is no WAY");
        scene.tells("would(0, 1)", 0).tells("would(1, 0)", 0).tells("would(3, 1)", 0);
        with("hs", "qvA", "qvA", "o", "q").tells("would(0, 0)", 0).tells("would(3, 0)", 0);
        of("15: all WAYS in which a PERSON speaks there");
        scene.tells("ways()", 4).tells("would(0, 0)", 4).tells("would(1, 1)", 2)
                .tells("would(1, 2)", 2).tells("would(3, 0)", 2);
    }

    private static void conflicts(Scene scene, int beginning, int end) {
        scene.tells("conflict(0)", beginning).tells("conflict(1)", end);
    }

    private static void conflict() {
        Scene scene = with("hs", "qvA", "qvA").keys("q");
        of("16: OUTSIDE: what is 0, 1");
        for (int what : new int[] {-1, 2, NONE, MIN, MAX}) {
            scene.refuses("conflict(" + what + ")", OUTSIDE);
            NEW.refuses("conflict(" + what + ")", OUTSIDE);
        }
        of("16: NONE: there is none");
        conflicts(with("hs", "o"), NONE, NONE);
        conflicts(with("hs", "qvA", "q"), NONE, NONE);
        conflicts(scene.then("rules(7)"), NONE, NONE);
        conflicts(scene.then("cut()"), NONE, NONE);
        of("CONFLICT: of one PARAGRAPH alone, the first, the last of 16");
        conflicts(NEW.writes("q"), 0, 0);
        conflicts(NEW.writes("o", "q", "q"), 1, 1);
        conflicts(with("hs").repeats(15, "q").writes("q@Aq@B"), 15, 15);
        of("CONFLICT: of all 16");
        conflicts(with("hs", "qvA").repeats(14, "q").writes("qvA"), 0, 15);
        conflicts(with("hs", "qvA").repeats(14, "+q").writes("+qvB"), 0, 15);
        conflicts(with("hs", "qvA").repeats(14, "q").writes("qvB"), NONE, NONE);
        of("CONFLICT: its END is the least k, so that for PARAGRAPHS 0 .. k there is no WAY");
        conflicts(with("hs", "qvA", "q", "qvB", "qvB"), 0, 2);
        conflicts(with("hs", "qvA", "qvA", "o", "q@Aq@B"), 0, 1);
        conflicts(with("hs", "q", "o", "qvA", "qvA", "qvA"), 2, 3);
        of("CONFLICT: its BEGINNING the greatest b, so that for PARAGRAPHS b .. END there is none");
        conflicts(with("hs", "qvA", "qvB", "q", "qvA", "qvA"), 1, 3);
        conflicts(with("hs", "qvA", "q", "qvA", "q", "qvB"), 2, 4);
        conflicts(with("hs", "q", "q", "qvB", "+qvA"), 2, 3);
        of("CONFLICT: with LINKS of these: + of b says nothing of what is ahead of b");
        conflicts(with("hs", "q", "+qvA", "qvA"), 1, 2);
        conflicts(with("hsn", "qvC", "q", "+q@Cq@B", "qvA"), 2, 3);
    }

    private static void asked() {
        of("17: NONE: there is none");
        with("hs").tells("asked()", NONE);
        with("hs", "o").tells("asked()", NONE);
        with("hs", "qvA", "q").tells("asked()", NONE);
        NEW.writes("q").tells("asked()", NONE);
        of("ASKED: of PARAGRAPHS whose SURE set has two PEOPLE or more: just two are enough");
        with("hs", "q").tells("asked()", 0);
        with("h", "q").tells("asked()", NONE);
        with("hs", "qvA", "o", "q").tells("asked()", 2);
        with("hs").then("rules(7)").repeats(15, "qvA").writes("q").tells("asked()", 15);
        of("ASKED: none in a CONFLICT, whatever OWN and NARROWED sets are");
        with("hs", "q", "o", "qvA", "qvA").tells("asked()", NONE);
        of("ASKED: the one for which the most WAYS that are left are the fewest");
        with("hsn", "q@A", "o", "q").tells("asked()", 2);
        with("hsn", "q@C", "o", "q", "o", "q@B").tells("asked()", 2);
        of("ASKED: the most WAYS, be it PERSON 0 or PERSON 7 who has them");
        // 0 leaves 2 and 2; 1 leaves 1 and 1, and 2 with the one whom 0 has not.
        with("hsn", "q@A", "q").tells("asked()", 0);
        with("h.....sn", "q@H", "q").tells("asked()", 0);
        with("h.....sn", "q", "q@H").tells("asked()", 0);
        of("ASKED: of several the first");
        with("hs", "o", "q", "q", "q").tells("asked()", 1);
        with("hs", "q", "o", "q", "o", "q").tells("asked()", 0);
        full().tells("asked()", 0);
    }

    private static void run() {
        Scene scene = with("hsn", "o", "q@C", "+q", "o", "q@Aq@Bq@C", "vA").keys("q");
        of("18: UNKNOWN: there is no such RUN");
        for (int r : new int[] {-1, 2, 16, NONE, MIN, MAX}) {
            scene.refuses("run(" + r + ", 0)", UNKNOWN);
        }
        with("hs").refuses("run(0, 0)", UNKNOWN);
        with("hs", "o", "vA").refuses("run(0, 0)", UNKNOWN);
        of("18: OUTSIDE: what is 0, 1, 2");
        for (int what : new int[] {-1, 3, NONE, MIN, MAX}) {
            scene.refuses("run(0, " + what + ")", OUTSIDE).refuses("run(1, " + what + ")", OUTSIDE);
        }
        of("18: of UNKNOWN and OUTSIDE the first one");
        scene.refuses("run(2, 3)", UNKNOWN).refuses("run(-1, -1)", UNKNOWN);
        of("18: a RUN in the middle, one of a single PARAGRAPH, one of which nobody is");
        scene.row("run", 0, 1, 4).row("run", 1, 2, 1).row("run", 2, 3, 0).tells("run(0, 2)", 3);
        of("RUNS: one from the first to the last of 16, with all eight");
        full().tells("run(0, 0)", 0).tells("run(0, 1)", 16).tells("run(0, 2)", 8)
                .refuses("run(1, 0)", UNKNOWN).tells("many(3)", 1);
        of("RUNS: 8, as many as 16 PARAGRAPHS can have, at the first and at the last");
        Scene even = with("hs");
        Scene odd = with("hs");
        for (int r = 0; r < 8; r++) {
            even = even.writes("q", "o");
            odd = odd.writes("o", "q");
        }
        even.row("run", 0, 0, 2, 4, 6, 8, 10, 12, 14, UNKNOWN).row("run", 1, 1, 1, 1, 1, 1, 1, 1, 1);
        odd.row("run", 0, 1, 3, 5, 7, 9, 11, 13, 15, UNKNOWN).row("run", 1, 1, 1, 1, 1, 1, 1, 1, 1);
        even.tells("many(3)", 8);
        odd.tells("many(3)", 8);
        of("RUNS: whatever LINKS there are");
        with("hs", "q", "q", "+q").then("rules(0)").tells("run(0, 1)", 3).tells("many(3)", 1);
        of("18: 2 PEOPLE in any of their OWN sets, each once, by RULES as they are now");
        with("hsn", "qvA", "qvB", "o", "qvC").row("run", 2, 2, 1).then("rules(0)")
                .row("run", 2, 3, 3);
    }

    // ---- 4 people

    private static void ofPerson() {
        Scene scene = with("hsn", "q", "qvA", "q", "qvB", "o").then("here(5)").keys("q");
        of("19: UNKNOWN: there is no such PERSON");
        for (int p : new int[] {-1, 3, 7, 8, 32, NONE, MIN, MAX}) {
            scene.refuses("ofPerson(" + p + ", 0)", UNKNOWN);
        }
        scene.then("away(2)").refuses("ofPerson(2, 0)", UNKNOWN);
        of("19: OUTSIDE: what is 0 .. 5");
        for (int what : new int[] {-1, 6, NONE, MIN, MAX}) {
            scene.refuses("ofPerson(0, " + what + ")", OUTSIDE);
        }
        of("19: of UNKNOWN and OUTSIDE the first one");
        scene.refuses("ofPerson(3, 6)", UNKNOWN).refuses("ofPerson(-1, -1)", UNKNOWN);
        of("19: 0 to 5");
        scene.row("ofPerson", 0, 0, 1, 2).row("ofPerson", 1, 1, 1, 1).row("ofPerson", 2, 1, 2, 2)
                .row("ofPerson", 3, 1, 3, 2).row("ofPerson", 4, 1, 3, 2).row("ofPerson", 5, 1, 0, 1);
        of("19: NONE: it HAS none; HAS: its SURE set has that PERSON alone");
        with("hs", "q").row("ofPerson", 1, 0, 0).row("ofPerson", 2, 1, 1).row("ofPerson", 3, NONE, NONE)
                .row("ofPerson", 4, NONE, NONE);
        with("hs").row("ofPerson", 1, 0, 0).row("ofPerson", 2, 0, 0).row("ofPerson", 3, NONE, NONE);
        with("hs", "qvA", "qvA").row("ofPerson", 1, 0, 0).row("ofPerson", 2, 0, 0)
                .row("ofPerson", 3, NONE, NONE).row("ofPerson", 4, NONE, NONE);
        of("19: all 16 are one PERSON's; the first is 0, the last 15");
        Scene sixteen = with("h......s").then("rules(7)").repeats(16, "qvH");
        sixteen.tells("ofPerson(7, 1)", 16).tells("ofPerson(7, 2)", 16).tells("ofPerson(7, 3)", 0)
                .tells("ofPerson(7, 4)", 15).tells("ofPerson(0, 2)", 0);
        of("19: MAY HAVE: all 16");
        full().tells("ofPerson(7, 2)", 16).tells("ofPerson(7, 1)", 0).tells("ofPerson(0, 2)", 16);
        of("19: the first and the last are one, if it HAS one alone, in the first place too");
        with("hs", "qvB", "o").tells("ofPerson(1, 3)", 0).tells("ofPerson(1, 4)", 0);
    }

    private static void ranks(Scene scene, int... want) {
        for (int k = 0; k < 8; k++) {
            scene.tells("rank(" + k + ")", k < want.length ? want[k] : NONE);
        }
    }

    private static void rank() {
        Scene scene = with("hsn", "qvB", "q").keys("q");
        of("20: OUTSIDE: the k-th (0 .. 7)");
        for (int k : new int[] {-1, 8, NONE, MIN, MAX}) {
            scene.refuses("rank(" + k + ")", OUTSIDE);
            NEW.refuses("rank(" + k + ")", OUTSIDE);
        }
        of("20: NONE: there are not so many: none, one, seven, eight");
        ranks(NEW);
        ranks(with(".......h"), 7);
        ranks(with("hsnhsnh"), 0, 1, 2, 3, 4, 5, 6);
        ranks(with("hsnhsnhs"), 0, 1, 2, 3, 4, 5, 6, 7);
        ranks(with("hsnhsnhs").then("away(0)"), 1, 2, 3, 4, 5, 6, 7);
        of("RANKS: by how many they HAVE; then by how many they MAY HAVE; then by number");
        ranks(with("hsn", "qvC", "o", "qvC", "o", "qvB"), 2, 1, 0);
        ranks(with("hsn", "qvC", "o", "q@C", "o", "q@C"), 2, 0, 1);
        ranks(with("hsn", "qvB", "o", "qvC", "o", "q@B"), 2, 1, 0);
        ranks(with("hsn", "q@Aq@B", "o", "q@Aq@C", "o", "q@A"), 1, 2, 0);
        ranks(with("hsn", "qvC", "qvC"), 0, 1, 2);
        ranks(with("hsnhsnhs", "qvH", "q@D"), 7, 0, 1, 2, 4, 5, 6, 3);
    }

    private static void written() {
        Scene all = with("hsnhsnhs", "o", "q", "o", "qvH", "o", "q@A", "+qvA", "o", "q@H").keys("q");
        of("21: UNKNOWN: there is no such PARAGRAPH");
        for (int k : new int[] {-1, 9, 16, NONE, MIN, MAX}) {
            all.refuses("written(" + k + ", 0)", UNKNOWN);
        }
        full().refuses("written(16, 0)", UNKNOWN).tells("written(15, 14)", 'H');
        of("21: OUTSIDE: i (-1 .. 14)");
        for (int i : new int[] {-2, 15, NONE, MIN, MAX}) {
            all.refuses("written(0, " + i + ")", OUTSIDE).refuses("written(1, " + i + ")", OUTSIDE);
        }
        of("21: of UNKNOWN and OUTSIDE the first one");
        all.refuses("written(9, 15)", UNKNOWN).refuses("written(-1, -2)", UNKNOWN);
        of("WRITTEN: a PARAGRAPH that does not SPEAK: a dot (46)");
        all.signs(0, ".").tells("written(0, 0)", 46);
        of("WRITTEN: the letter of the only one: A, H");
        all.signs(3, "H").tells("written(3, 0)", 72);
        with("h", "q").signs(0, "A").tells("written(0, 0)", 65);
        of("WRITTEN: ! (33) for the empty set");
        all.signs(5, "!").signs(6, "!").tells("written(5, 0)", 33);
        NEW.writes("q").signs(0, "!");
        of("WRITTEN: the letters of all, by number, with / (47) between each two: two, seven, eight");
        all.signs(1, "A/B/C/D/E/F/G/H").signs(8, "A/B/C/D/E/F/G").tells("written(1, 13)", 47);
        with("h......s", "q").signs(0, "A/H");
        of("WRITTEN: by its NARROWED set, not its OWN or SURE one");
        with("hsn", "qvA", "q").signs(1, "B/C");
        with("hs", "q", "o", "qvA", "qvA").signs(0, "A/B").signs(2, "!").signs(3, "!");
    }

    private static void many() {
        Scene scene = with("hsn", "q", "qvA", "o", "qvB", "o")
                .then("hint(0, 6)", "hint(3, 255)", "here(4)", "rules(13)").keys("qv");
        of("22: OUTSIDE: what is 0 .. 8");
        for (int what : new int[] {-1, 9, NONE, MIN, MAX}) {
            scene.refuses("many(" + what + ")", OUTSIDE);
            NEW.refuses("many(" + what + ")", OUTSIDE);
        }
        of("22: 0 to 8");
        int[] want = {3, 5, 3, 2, 0, 2, 2, 4, 13};
        for (int what = 0; what < want.length; what++) {
            scene.tells("many(" + what + ")", want[what]);
        }
        of("22: as many as there can be");
        Scene most = full().then("rules(0)").keys("qqqqqqqqqqqq");
        for (int k = 0; k < 16; k++) {
            most = most.then("hint(" + k + ", 128)");
        }
        int[] full = {8, 16, 16, 1, 16, 16, 12, 255, 0};
        for (int what = 0; what < full.length; what++) {
            most.tells("many(" + what + ")", full[what]);
        }
        of("22: 4 that have a SURE set of one PERSON, so none in a CONFLICT");
        scene.then("rules(15)").tells("many(4)", 2);
        with("hs", "qvA", "qvA", "o", "qvB").tells("many(4)", 0).tells("many(2)", 3);
        of("22: 5 HINTS: one that takes nobody away is one; one that is taken back is none");
        with("hs", "q").then("hint(0, 255)").tells("many(5)", 1).then("hint(0, 1)")
                .tells("many(5)", 1).then("hint(0, -9)").tells("many(5)", 0);
    }
}
