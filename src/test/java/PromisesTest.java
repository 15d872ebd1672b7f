/** Each promise by hand: ordinary inputs, the edges that the document names, wrong inputs. */
public final class PromisesTest {
    private static final int UNKNOWN = -1, OUTSIDE = -2, STATE = -3, FULL = -4, NONE = -9;
    private static final int[] FAR = {Integer.MIN_VALUE, -1000, 1000, Integer.MAX_VALUE};
    private static int wrong = 0;

    public static void main(String[] args) {
        newObject();
        person();
        away();
        here();
        rules();
        keyAndWipe();
        paragraphNumbersAndFull();
        firstFaults();
        goingOn();
        cut();
        ofParagraph();
        verbsThatCount();
        ownSets();
        ownSetsByRules();
        narrowedSets();
        sureSets();
        hint();
        link();
        ways();
        would();
        conflict();
        asked();
        run();
        ofPerson();
        rank();
        written();
        many();
        farNumbers();
        System.out.println(wrong == 0 ? "all promises are kept" : wrong + " answers are not as due");
        if (wrong != 0) {
            System.exit(1);
        }
    }

    private static void due(String what, long got, long want) {
        if (got != want) {
            wrong++;
            System.out.println(what + " answered " + got + ", due is " + want);
        }
    }

    /** PEOPLE by their SORTS (h, s, n), all of them HERE. */
    private static WhoSpeaks with(String sorts, String... texts) {
        WhoSpeaks x = new WhoSpeaks();
        for (int p = 0; p < sorts.length(); p++) {
            x.person(p, "hsn".indexOf(sorts.charAt(p)));
        }
        x.here((1 << sorts.length()) - 1);
        for (String text : texts) {
            int number = x.many(1);
            due("paragraph " + text, write(x, text), number);
        }
        return x;
    }

    private static int write(WhoSpeaks x, String text) {
        x.wipe();
        for (int i = 0; i < text.length(); i++) {
            x.key(text.charAt(i));
        }
        return x.paragraph();
    }

    private static void sets(String name, WhoSpeaks x, int what, int... want) {
        for (int k = 0; k < want.length; k++) {
            due(name + ": set(" + k + ", " + what + ")", x.set(k, what), want[k]);
        }
    }

    private static void newObject() {
        WhoSpeaks x = new WhoSpeaks();
        int[] want = {0, 0, 0, 0, 0, 0, 0, 0, 15};
        for (int what = 0; what < want.length; what++) {
            due("new: many(" + what + ")", x.many(what), want[what]);
        }
        due("new: ways", x.ways(), 1);
        due("new: asked", x.asked(), NONE);
        due("new: conflict", x.conflict(0), NONE);
        due("new: rank", x.rank(0), NONE);
        due("new: wipe", x.wipe(), 0);
        due("new: cut", x.cut(), STATE);
        due("new: ofPerson", x.ofPerson(0, 0), UNKNOWN);
    }

    private static void person() {
        WhoSpeaks x = new WhoSpeaks();
        due("person comes", x.person(7, 2), NONE);
        due("person again", x.person(7, 0), 2);
        due("person once more", x.person(7, 1), 0);
        due("person has its sort", x.ofPerson(7, 0), 1);
        due("person does not come HERE", x.many(7), 0);
        due("person -1", x.person(-1, 0), UNKNOWN);
        due("person 8", x.person(8, 9), UNKNOWN);
        due("person sort -1", x.person(7, -1), OUTSIDE);
        due("person sort 3", x.person(6, 3), OUTSIDE);
        due("person refused changes nothing", x.many(0), 1);
        due("person keeps its sort", x.ofPerson(7, 0), 1);
    }

    private static void away() {
        WhoSpeaks x = with("hshn", "q", "qvh", "o", "q@B", "Ao");
        due("away -1", x.away(-1), UNKNOWN);
        due("away 8", x.away(8), UNKNOWN);
        due("away 5", x.away(5), UNKNOWN);
        due("away of a name", x.away(0), STATE);
        due("away of one spoken to", x.away(1), STATE);
        due("away refused", x.many(0), 4);
        due("away of OWN sets", x.away(2), 3);
        due("away: not there", x.many(0), 3);
        due("away: not HERE", x.many(7), 11);
        due("away twice", x.away(2), UNKNOWN);
        due("away: HERE as it came stays", x.ofParagraph(0, 3), 15);
        sets("away", x, 0, 11, 1, NONE, 9, NONE);
        due("back again", x.person(2, 2), NONE);
        sets("back", x, 0, 15, 1, NONE, 13, NONE);
        due("back is not HERE", x.many(7), 11);
        x.cut();
        due("away: its name was cut", x.away(0), 3);
    }

    private static void here() {
        WhoSpeaks x = with("hs");
        x.person(7, 2);
        due("here was", x.here(130), 3);
        due("here of one not there", x.here(4), OUTSIDE);
        due("here 256", x.here(256), OUTSIDE);
        due("here -1", x.here(-1), OUTSIDE);
        due("here refused", x.many(7), 130);
        due("here empty", x.here(0), 130);
        due("here again", x.here(131), 0);
        due("of person here", x.ofPerson(7, 5), 1);
    }

    private static void rules() {
        WhoSpeaks x = new WhoSpeaks();
        due("rules were", x.rules(0), 15);
        due("rules 16", x.rules(16), OUTSIDE);
        due("rules -1", x.rules(-1), OUTSIDE);
        due("rules again", x.rules(15), 0);
        due("rules now", x.many(8), 15);
    }

    private static void keyAndWipe() {
        WhoSpeaks x = new WhoSpeaks();
        due("key -1", x.key(-1), OUTSIDE);
        due("key 128", x.key(128), OUTSIDE);
        due("key 0", x.key(0), 1);
        due("key 127", x.key(127), 2);
        for (int i = 3; i <= 12; i++) {
            due("key " + i, x.key('q'), i);
        }
        due("key on a full tape", x.key('q'), FULL);
        due("key outside on a full tape", x.key(128), OUTSIDE);
        due("codes", x.many(6), 12);
        due("wipe", x.wipe(), 12);
        due("wipe again", x.wipe(), 0);
        due("key after wipe", x.key('v'), 1);
    }

    private static void paragraphNumbersAndFull() {
        WhoSpeaks x = with("h");
        for (int k = 0; k < 16; k++) {
            due("paragraph " + k, write(x, "qqqqqqqqqqqq"), k);
            due("tape behind a paragraph", x.many(6), 0);
        }
        due("a 17th", write(x, "q"), FULL);
        due("the tape stays", x.many(6), 1);
        due("a 17th with a fault", write(x, "!"), FULL);
        x.cut();
        due("a fault", x.paragraph(), -100);
        due("the tape stays with a fault", x.many(6), 1);
        due("no paragraph with a fault", x.many(1), 15);
        due("the 16th again", write(x, "q"), 15);
    }

    private static void fault(WhoSpeaks x, String text, int place) {
        due("fault of " + text, write(x, text), -100 - place);
    }

    private static void firstFaults() {
        WhoSpeaks x = with("hs");
        fault(x, "", 0);
        fault(x, "+", 0);
        fault(x, "+q", 0);
        fault(x, "@A", 0);
        fault(x, "C", 0);
        fault(x, "I", 0);
        fault(x, "a", 0);
        fault(x, "q@", 2);
        fault(x, "q@q", 2);
        fault(x, "q@@", 2);
        fault(x, "q@C", 2);
        fault(x, "q@A@B", 3);
        fault(x, "v@A", 1);
        fault(x, "q+", 1);
        fault(x, "vohsABx", 6);
        fault(x, "qqqqqqqqqqq@", 12);
        due("a paragraph that does not speak", write(x, "vohsAB"), 0);
        fault(x, "+q", 0);
        due("a paragraph that speaks", write(x, "o"), 1);
        due("one with a quote", write(x, "q@Aq@B"), 2);
        fault(x, "+", 1);
        fault(x, "++", 1);
        fault(x, "+v", 2);
        fault(x, "+vohsAB", 7);
        fault(x, "+ooooooooooo", 12);
        fault(x, "+o!", 2);
        fault(x, "+q@", 3);
        fault(x, "+o@A", 2);
        due("+ with the quote last", write(x, "+oq"), 3);
        WhoSpeaks nobody = new WhoSpeaks();
        fault(nobody, "A", 0);
        fault(nobody, "q@", 2);
        fault(nobody, "q@A", 2);
        fault(nobody, "q@q", 2);
        fault(nobody, "q@@", 2);
        fault(nobody, "@", 0);
        fault(nobody, "v@", 1);
        fault(nobody, "vqq@", 4);
        fault(nobody, "qqqqqqqqqqq@", 12);
        due("nobody is there", write(nobody, "qvh"), 0);
        fault(nobody, "+@", 1);
        fault(nobody, "+q@", 3);
        WhoSpeaks gone = with("h");
        due("all go away", gone.away(0), 0);
        fault(gone, "q@", 2);
        fault(gone, "q@A", 2);
    }

    private static void goingOn() {
        WhoSpeaks x = with("hs", "q", "+qvA", "o");
        due("+ behind one without a quote", write(x, "+q"), -100);
        x.cut();
        due("+ behind one with a quote", write(x, "+q"), 2);
        due("goes on", x.ofParagraph(2, 2), 1);
        due("does not go on", x.ofParagraph(0, 2), 0);
        due("+ is no item", x.ofParagraph(1, 0), 3);
    }

    private static void cut() {
        WhoSpeaks x = with("hs", "q", "q", "o");
        x.hint(1, 1);
        due("cut", x.cut(), 2);
        due("cut a hint", x.cut(), 1);
        due("hints behind cut", x.many(5), 0);
        due("paragraph behind cut", write(x, "qvB"), 1);
        due("no hint comes back", x.ofParagraph(1, 5), NONE);
        due("cut", x.cut(), 1);
        due("cut the last", x.cut(), 0);
        due("cut none", x.cut(), STATE);
        due("cut keeps people", x.many(0), 2);
    }

    private static void ofParagraph() {
        WhoSpeaks x = with("hs", "q@Aq@BoqvB");
        x.here(2);
        write(x, "+oqovB");
        x.hint(1, 255);
        int[] first = {6, 3, 0, 3, 1, NONE};
        int[] second = {5, 1, 1, 2, 0, 255};
        for (int what = 0; what < 6; what++) {
            due("ofParagraph 0, " + what, x.ofParagraph(0, what), first[what]);
            due("ofParagraph 1, " + what, x.ofParagraph(1, what), second[what]);
        }
        due("ofParagraph -1", x.ofParagraph(-1, 0), UNKNOWN);
        due("ofParagraph 2", x.ofParagraph(2, 9), UNKNOWN);
        due("ofParagraph what -1", x.ofParagraph(0, -1), OUTSIDE);
        due("ofParagraph what 6", x.ofParagraph(0, 6), OUTSIDE);
        x.rules(0);
        due("verbs count whatever the rules", x.ofParagraph(0, 4), 1);
    }

    private static void verbs(String text, int count, int own) {
        WhoSpeaks x = with("hsn", text);
        due("verbs of " + text, x.ofParagraph(0, 4), count);
        due("set of " + text, x.set(0, 0), own);
    }

    private static void verbsThatCount() {
        verbs("qvA", 1, 1);
        verbs("qAv", 1, 1);
        verbs("vAq", 1, 1);
        verbs("Avq", 1, 1);
        verbs("BvAq", 1, 1);
        verbs("qBvA", 0, 7);
        verbs("qAvoq", 1, 1);
        verbs("qAvB", 0, 7);
        verbs("qv", 0, 7);
        verbs("qvoA", 0, 7);
        verbs("qovA", 0, 7);
        verbs("vAoq", 0, 7);
        verbs("qvh", 1, 1);
        verbs("qvs", 1, 2);
        verbs("hvq", 1, 1);
        verbs("qvhqvs", 2, 0);
        verbs("qvAqvB", 2, 0);
        verbs("qvAvBq", 2, 0);
        verbs("qvAq", 1, 1);
        verbs("q@BvC", 1, 4);
        verbs("vAvq", 1, 1);
        verbs("qvC", 1, 4);
        verbs("vA", 0, NONE);
    }

    private static void ownSets() {
        WhoSpeaks x = with("hsn", "q", "q@A", "q@Aq@B", "AoqvB", "Aoq", "oAq", "hoq", "o", "Aov", "qAo",
                "Aoq@A");
        sets("own", x, 0, 7, 6, 4, 2, 1, 7, 7, NONE, NONE, 7, 0);
        x.here(6);
        write(x, "qvA");
        due("who is not HERE does not speak", x.set(11, 0), 0);
        due("set -1", x.set(-1, 0), UNKNOWN);
        due("set 12", x.set(12, 7), UNKNOWN);
        due("set what -1", x.set(0, -1), OUTSIDE);
        due("set what 3 of one that does not speak", x.set(7, 3), OUTSIDE);
        due("narrowed of one that does not speak", x.set(7, 1), NONE);
        due("sure of one that does not speak", x.set(7, 2), NONE);
        WhoSpeaks sorts = with("hh", "qvh");
        sorts.person(0, 1);
        due("the sort is that of now", sorts.set(0, 0), 2);
    }

    private static void ownSetsByRules() {
        String text = "Aoq@BvC";
        WhoSpeaks x = with("hsn", text, "Aoq@A", "Boqov");
        int[][] want = {{7, 7, 7}, {5, 6, 7}, {4, 7, 7}, {4, 6, 7}, {7, 1, 2}, {5, 0, 2}, {4, 1, 2}, {4, 0, 2}};
        for (int set = 0; set < 16; set++) {
            x.rules(set);
            sets("rules " + set, x, 0, want[set & 7]);
        }
        x.hint(0, 3);
        due("a hint and no rules", x.rules(0), 15);
        due("a hint whatever the rules", x.set(0, 0), 3);
    }

    private static void narrowedSets() {
        sets("chain", with("hsn", "qvA", "q", "qvB", "q", "q"), 1, 1, 4, 2, 5, 7);
        sets("two by turns", with("hs", "qvA", "q", "q", "o", "q"), 1, 1, 2, 1, NONE, 3);
        sets("like", with("hsn", "q@A", "+q@B", "+q"), 1, 4, 4, 4);
        sets("like and unlike", with("hsn", "q", "+qvA", "q"), 1, 1, 1, 6);
        sets("both empty", with("hs", "qvA", "qvA", "q"), 1, 0, 0, 2);
        sets("two singles pass on", with("hsn", "qvA", "q", "qvA", "qvA", "q"), 1, 1, 6, 0, 0, 6);
        // No set has just one PERSON, so ROUNDS change nothing.
        sets("no single", with("hs", "q", "q", "q"), 1, 3, 3, 3);
        WhoSpeaks x = with("hsn", "qvA", "q");
        x.rules(7);
        sets("without turns", x, 1, 1, 7);
        x = with("hsnh");
        x.here(3);
        write(x, "q");
        x.here(12);
        write(x, "+q");
        write(x, "q");
        sets("nothing in common", x, 1, 0, 0, 12);
    }

    private static void sureSets() {
        sets("sure chain", with("hsn", "qvA", "q", "qvB"), 2, 1, 4, 2);
        sets("sure, no way", with("hs", "qvA", "qvA", "o", "q"), 2, 0, 0, NONE, 0);
        WhoSpeaks x = with("hsn", "q", "+q", "q@C", "qvA");
        sets("sure", x, 2, 5, 5, 2, 1);
        sets("narrowed", x, 1, 5, 5, 2, 1);
        // Somebody single in a SURE set who is not so in any OWN set.
        WhoSpeaks two = with("hsn", "q@C", "q", "q@C");
        sets("sure by turns", two, 2, 3, 7, 3);
        two.hint(0, 1);
        two.hint(2, 2);
        sets("sure with hints", two, 2, 1, 4, 2);
        // A CONFLICT empties the SURE sets of all RUNS, of which ROUNDS know nothing.
        WhoSpeaks far = with("hs", "q", "o", "qvA", "qvA");
        sets("narrowed apart", far, 1, 3, NONE, 0, 0);
        sets("sure nowhere", far, 2, 0, NONE, 0, 0);
    }

    private static void hint() {
        WhoSpeaks x = with("hs", "q", "q", "q", "o");
        due("hint narrows all", x.hint(1, 1), 3);
        due("hint is kept", x.ofParagraph(1, 5), 1);
        sets("hint", x, 1, 2, 1, 2, NONE);
        due("the same hint", x.hint(1, 1), 0);
        due("another", x.hint(1, 2), 3);
        due("one of somebody not there", x.hint(1, 128), 3);
        sets("nobody", x, 0, 3, 0, 3, NONE);
        sets("nobody", x, 1, 3, 0, 3, NONE);
        due("no hint", x.hint(1, NONE), 1);
        due("no hint again", x.hint(1, NONE), 0);
        due("hint 255", x.hint(0, 255), 0);
        due("hint 0", x.hint(0, 0), OUTSIDE);
        due("hint 256", x.hint(0, 256), OUTSIDE);
        due("hint -1", x.hint(0, -1), OUTSIDE);
        due("hint -8", x.hint(0, -8), OUTSIDE);
        due("hint of none", x.hint(4, 0), UNKNOWN);
        due("hint of -1", x.hint(-1, 1), UNKNOWN);
        due("outside comes ahead of state", x.hint(3, 0), OUTSIDE);
        due("hint of one that does not speak", x.hint(3, 1), STATE);
        due("no hint of one that does not speak", x.hint(3, NONE), STATE);
        due("hints", x.many(5), 1);
    }

    private static void link() {
        WhoSpeaks x = with("hs", "q", "q", "+q", "o", "q", "o", "o");
        int[] want = {0, 2, 1, 0, 0, 0, 0};
        int[] withoutTurns = {0, 0, 1, 0, 0, 0, 0};
        for (int k = 0; k < want.length; k++) {
            x.rules(15);
            due("link " + k, x.link(k), want[k]);
            x.rules(7);
            due("link without turns " + k, x.link(k), withoutTurns[k]);
        }
        due("link -1", x.link(-1), UNKNOWN);
        due("link 7", x.link(7), UNKNOWN);
    }

    private static void ways() {
        due("no paragraph speaks", with("hs", "o").ways(), 1);
        due("one", with("hsn", "q").ways(), 3);
        due("unlike", with("hsn", "q", "q", "q").ways(), 12);
        due("like", with("hsn", "q", "+q", "+q").ways(), 3);
        due("two runs", with("hsn", "q", "q", "o", "q").ways(), 18);
        due("like, unlike", with("hsn", "q", "+q", "q", "+q@A").ways(), 4);
        due("nobody is here", with("", "q").ways(), 0);
        WhoSpeaks most = with("hshshshs");
        long unlike = 8;
        long free = 8;
        for (int k = 0; k < 16; k++) {
            write(most, "q");
        }
        for (int k = 1; k < 16; k++) {
            unlike *= 7;
            free *= 8;
        }
        due("the most by turns", most.ways(), unlike);
        due("would by turns", most.would(9, 3), unlike / 8);
        most.rules(7);
        due("the most", most.ways(), free);
        due("would", most.would(15, 7), free / 8);
    }

    private static void would() {
        WhoSpeaks x = with("hsn", "qvA", "q", "o", "q@B");
        due("would 0 A", x.would(0, 0), 4);
        due("would 0 B", x.would(0, 1), 0);
        due("would 1 A", x.would(1, 0), 0);
        due("would 1 B", x.would(1, 1), 2);
        due("would 1 C", x.would(1, 2), 2);
        due("would of one that does not speak", x.would(2, 0), 0);
        due("would 3 A", x.would(3, 0), 2);
        due("would of no paragraph", x.would(4, 0), UNKNOWN);
        due("would -1", x.would(-1, 0), UNKNOWN);
        due("would of nobody", x.would(0, 3), UNKNOWN);
        due("would of 8", x.would(2, 8), UNKNOWN);
        due("would of -1", x.would(2, -1), UNKNOWN);
    }

    private static void conflicts(String name, WhoSpeaks x, int begin, int end) {
        due(name + ": conflict(0)", x.conflict(0), begin);
        due(name + ": conflict(1)", x.conflict(1), end);
    }

    private static void conflict() {
        conflicts("none", with("hs", "q", "q"), NONE, NONE);
        conflicts("of one", with("hs", "q", "q@Aq@B", "q"), 1, 1);
        conflicts("of two", with("hs", "q", "qvA", "qvA", "q"), 1, 2);
        conflicts("of three", with("hs", "o", "qvA", "q", "qvB"), 1, 3);
        conflicts("like", with("hs", "qvA", "+q", "+qvB"), 0, 2);
        conflicts("the first of two", with("hs", "qvA", "qvA", "o", "qvB", "qvB"), 0, 1);
        conflicts("the shortest at the end", with("hs", "qvA", "q", "qvB", "qvB"), 0, 2);
        conflicts("over a gap", with("hs", "qvA", "o", "qvA", "qvA"), 2, 3);
        WhoSpeaks x = with("hs", "q");
        due("conflict 2", x.conflict(2), OUTSIDE);
        due("conflict -1", x.conflict(-1), OUTSIDE);
    }

    private static void asked() {
        due("nothing to ask", with("hs", "qvA", "q").asked(), NONE);
        due("asked, the first of several", with("hs", "q", "q", "q").asked(), 0);
        // Of 6 WAYS 3 are left, if 0 is told, and 2, if 2 is.
        due("asked, the fewest", with("hsn", "q@A", "o", "q").asked(), 2);
        due("asked, the fewest first", with("hsn", "q", "o", "q@A").asked(), 0);
        due("asked in a conflict", with("hs", "qvA", "qvA", "o", "q").asked(), NONE);
        // A or B, then A, B or C: 2 are left, if 0 is told; if 1 is, 1 or (C) 2.
        due("asked by the most", with("hsn", "q@C", "q").asked(), 0);
        due("asked by the most, behind", with("hsn", "q", "q@C", "o", "q@C").asked(), 0);
    }

    private static void run() {
        WhoSpeaks x = with("hsn", "q", "o", "qvA", "q@B", "+q@B", "o", "o", "q@Aq@Bq@C");
        int[][] want = {{0, 1, 3}, {2, 3, 2}, {7, 1, 0}};
        for (int r = 0; r < want.length; r++) {
            for (int what = 0; what < 3; what++) {
                due("run(" + r + ", " + what + ")", x.run(r, what), want[r][what]);
            }
        }
        due("run 3", x.run(3, 0), UNKNOWN);
        due("run -1", x.run(-1, 9), UNKNOWN);
        due("run what 3", x.run(0, 3), OUTSIDE);
        due("run what -1", x.run(0, -1), OUTSIDE);
        due("runs", x.many(3), 3);
        due("no run", with("h", "o").run(0, 0), UNKNOWN);
    }

    private static void ofPerson() {
        WhoSpeaks x = with("hsn", "q", "qvA", "q", "qvB", "q", "qvA", "o");
        x.here(5);
        int[][] want = {{0, 2, 2, 1, 5, 1}, {1, 1, 2, 3, 3, 0}, {2, 2, 3, 2, 4, 1}};
        for (int p = 0; p < want.length; p++) {
            for (int what = 0; what < 6; what++) {
                due("ofPerson(" + p + ", " + what + ")", x.ofPerson(p, what), want[p][what]);
            }
        }
        due("ofPerson 3", x.ofPerson(3, 0), UNKNOWN);
        due("ofPerson -1", x.ofPerson(-1, 9), UNKNOWN);
        due("ofPerson 8", x.ofPerson(8, 0), UNKNOWN);
        due("ofPerson what 6", x.ofPerson(0, 6), OUTSIDE);
        due("ofPerson what -1", x.ofPerson(0, -1), OUTSIDE);
        WhoSpeaks none = with("hs", "q");
        due("has none", none.ofPerson(0, 1), 0);
        due("may have one", none.ofPerson(0, 2), 1);
        due("has no first", none.ofPerson(0, 3), NONE);
        due("has no last", none.ofPerson(0, 4), NONE);
    }

    private static void ranks(String name, WhoSpeaks x, int... want) {
        for (int k = 0; k < 8; k++) {
            due(name + ": rank(" + k + ")", x.rank(k), k < want.length ? want[k] : NONE);
        }
    }

    private static void rank() {
        ranks("by number", with("hsn"), 0, 1, 2);
        ranks("by what they have", with("hsn", "qvB", "qvC", "qvB"), 1, 2, 0);
        ranks("then by what they may have", with("hsn", "qvB", "o", "qvC", "o", "q@B"), 2, 1, 0);
        ranks("may have, none has any", with("hsn", "q@A", "o", "q@A"), 1, 2, 0);
        ranks("all eight", with("hshshshs", "qvH", "qvD", "qvH"), 7, 3, 0, 1, 2, 4, 5, 6);
        WhoSpeaks gap = with("hsn", "qvA");
        gap.away(1);
        ranks("those that are there", gap, 0, 2);
        due("rank -1", gap.rank(-1), OUTSIDE);
        due("rank 8", gap.rank(8), OUTSIDE);
    }

    private static void signs(String name, WhoSpeaks x, int k, String want) {
        due(name + ": length", x.written(k, -1), want.length());
        for (int i = 0; i < 15; i++) {
            due(name + ": sign " + i, x.written(k, i), i < want.length() ? want.charAt(i) : NONE);
        }
    }

    private static void written() {
        WhoSpeaks x = with("hshshshs", "o", "q", "o", "qvB", "q@D", "o", "q@A", "+qvA");
        signs("dot", x, 0, ".");
        signs("all", x, 1, "A/B/C/D/E/F/G/H");
        signs("one", x, 3, "B");
        signs("narrowed", x, 4, "A/C/E/F/G/H");
        signs("nobody", x, 6, "!");
        due("written -1", x.written(-1, 0), UNKNOWN);
        due("written 8", x.written(8, 99), UNKNOWN);
        due("written -2", x.written(0, -2), OUTSIDE);
        due("written 15", x.written(1, 15), OUTSIDE);
        WhoSpeaks two = with("hsn", "q", "q", "q");
        two.hint(1, 4);
        signs("two", two, 0, "A/B");
        // Rounds leave what no way has: WRITTEN goes by the NARROWED set.
        WhoSpeaks odd = with("hs", "qvA", "qvA", "o", "q");
        signs("narrowed, not sure", odd, 3, "A/B");
    }

    private static void many() {
        WhoSpeaks x = with("hsn", "q", "qvA", "o", "qvB", "o");
        x.hint(0, 6);
        x.hint(3, 255);
        x.here(4);
        x.rules(13);
        x.key(0);
        x.key(0);
        int[] want = {3, 5, 3, 2, 0, 2, 2, 4, 13};
        for (int what = 0; what < want.length; what++) {
            due("many(" + what + ")", x.many(what), want[what]);
        }
        x.rules(15);
        due("many sure of one", x.many(4), 2);
        due("many -1", x.many(-1), OUTSIDE);
        due("many 9", x.many(9), OUTSIDE);
    }

    /** No call may throw for numbers however far, and those refused are told so. */
    private static void farNumbers() {
        WhoSpeaks x = with("hs", "q", "q");
        for (int far : FAR) {
            due("far person", x.person(far, 0), UNKNOWN);
            due("far sort", x.person(0, far), OUTSIDE);
            due("far away", x.away(far), UNKNOWN);
            due("far here", x.here(far), OUTSIDE);
            due("far rules", x.rules(far), OUTSIDE);
            due("far key", x.key(far), OUTSIDE);
            due("far ofParagraph", x.ofParagraph(far, 0), UNKNOWN);
            due("far ofParagraph what", x.ofParagraph(0, far), OUTSIDE);
            due("far set", x.set(far, 0), UNKNOWN);
            due("far set what", x.set(0, far), OUTSIDE);
            due("far hint", x.hint(far, 1), UNKNOWN);
            due("far hint set", x.hint(0, far), OUTSIDE);
            due("far link", x.link(far), UNKNOWN);
            due("far would", x.would(far, 0), UNKNOWN);
            due("far would person", x.would(0, far), UNKNOWN);
            due("far conflict", x.conflict(far), OUTSIDE);
            due("far run", x.run(far, 0), UNKNOWN);
            due("far run what", x.run(0, far), OUTSIDE);
            due("far ofPerson", x.ofPerson(far, 0), UNKNOWN);
            due("far ofPerson what", x.ofPerson(0, far), OUTSIDE);
            due("far rank", x.rank(far), OUTSIDE);
            due("far written", x.written(far, 0), UNKNOWN);
            due("far written sign", x.written(0, far), OUTSIDE);
            due("far many", x.many(far), OUTSIDE);
        }
        sets("nothing changed", x, 0, 3, 3);
    }
}
