/**
 * Who speaks: paragraphs of a novel as signs for quotes, verbs of speech, names, he and she, other
 * words, and who may say the quotes of each. Words in capitals are the terms of the document.
 */
public final class WhoSpeaks {
    public static final int UNKNOWN = -1, OUTSIDE = -2, STATE = -3, FULL = -4, NONE = -9;

    private static final int MOST_PEOPLE = 8;
    private static final int MOST_PARAGRAPHS = 16;
    private static final int MOST_CODES = 12;
    private static final int LAST_CODE = 127;
    private static final int ALL_PEOPLE = 255;
    private static final int FIRST_FAULT_BASE = -100;

    private static final int HE = 0;
    private static final int SHE = 1;
    private static final int NEITHER = 2;

    private static final int SPOKEN_TO = 1;
    private static final int VERBS = 2;
    private static final int DOING = 4;
    private static final int TURNS = 8;
    private static final int ALL_RULES = SPOKEN_TO | VERBS | DOING | TURNS;

    private static final int NOTHING = -1;
    private static final int ON_SIGN = '+';
    private static final int TO_SIGN = '@';
    private static final int QUOTE = 'q';
    private static final int VERB = 'v';
    private static final int OTHER = 'o';
    private static final int HE_WORD = 'h';
    private static final int SHE_WORD = 's';
    private static final int FIRST_NAME = 'A';
    /** All names are ITEMS of this one kind; whose name it is stands beside it. */
    private static final int NAME = FIRST_NAME;

    private static final int NOT_LINKED = 0;
    private static final int LIKE = 1;
    private static final int UNLIKE = 2;

    private static final int NOT_SPEAKING_SIGN = '.';
    private static final int NOBODY_SIGN = '!';
    private static final int BETWEEN_SIGN = '/';
    private static final int LAST_SIGN = 14;

    private final People people;
    private final Tape tape;
    private final Story story;
    private final Chain chain;
    private final int[] narrowedBefore;
    private final int[] hasCounts;
    private final int[] mayCounts;
    private int hereSet;
    private int ruleSet;

    public WhoSpeaks() {
        people = new People();
        tape = new Tape();
        story = new Story();
        chain = new Chain();
        narrowedBefore = new int[MOST_PARAGRAPHS];
        hasCounts = new int[MOST_PEOPLE];
        mayCounts = new int[MOST_PEOPLE];
        hereSet = 0;
        ruleSet = ALL_RULES;
    }

    // ---- 1 people, paragraphs

    public int person(int p, int sort) {
        if (!isWithin(p, MOST_PEOPLE)) {
            return UNKNOWN;
        }
        if (sort < HE || sort > NEITHER) {
            return OUTSIDE;
        }
        int had = people.sortOf(p);
        people.bring(p, sort);
        return had;
    }

    public int away(int p) {
        if (!people.isThere(p)) {
            return UNKNOWN;
        }
        if (story.namesAnywhere(p)) {
            return STATE;
        }
        fillChain();
        int sets = chain.ownSetsWith(p);
        people.takeAway(p);
        hereSet &= ~bitOf(p);
        return sets;
    }

    public int here(int set) {
        if ((set & ~people.thereSet()) != 0) {
            return OUTSIDE;
        }
        int was = hereSet;
        hereSet = set;
        return was;
    }

    public int rules(int set) {
        if ((set & ~ALL_RULES) != 0) {
            return OUTSIDE;
        }
        int were = ruleSet;
        ruleSet = set;
        return were;
    }

    public int key(int code) {
        if (code < 0 || code > LAST_CODE) {
            return OUTSIDE;
        }
        if (tape.isFull()) {
            return FULL;
        }
        tape.put(code);
        return tape.length();
    }

    public int wipe() {
        int had = tape.length();
        tape.clear();
        return had;
    }

    public int paragraph() {
        if (story.isFull()) {
            return FULL;
        }
        int fault = tape.firstFault(people, story.mayGoOn());
        if (fault != NONE) {
            return FIRST_FAULT_BASE - fault;
        }
        story.append(tape, hereSet);
        tape.clear();
        return story.length() - 1;
    }

    public int cut() {
        if (story.length() == 0) {
            return STATE;
        }
        story.dropLast();
        return story.length();
    }

    public int ofParagraph(int k, int what) {
        if (!story.holds(k)) {
            return UNKNOWN;
        }
        Paragraph paragraph = story.paragraphAt(k);
        switch (what) {
            case 0:
                return paragraph.length();
            case 1:
                return paragraph.quotes();
            case 2:
                return paragraph.goesOn() ? 1 : 0;
            case 3:
                return paragraph.hereThen();
            case 4:
                return paragraph.countingVerbs();
            case 5:
                return paragraph.hintSet();
            default:
                return OUTSIDE;
        }
    }

    // ---- 2 sets

    public int set(int k, int what) {
        if (!story.holds(k)) {
            return UNKNOWN;
        }
        if (what < 0 || what > 2) {
            return OUTSIDE;
        }
        if (!story.paragraphAt(k).speaks()) {
            return NONE;
        }
        fillChain();
        if (what == 0) {
            return chain.ownSet(k);
        }
        if (what == 1) {
            chain.narrow();
            return chain.narrowedSet(k);
        }
        chain.countWays();
        return chain.sureSet(k);
    }

    public int hint(int k, int set) {
        if (!story.holds(k)) {
            return UNKNOWN;
        }
        if (set != NONE && (set < 1 || set > ALL_PEOPLE)) {
            return OUTSIDE;
        }
        Paragraph paragraph = story.paragraphAt(k);
        if (!paragraph.speaks()) {
            return STATE;
        }
        keepNarrowedSets();
        paragraph.takeHint(set);
        return changedNarrowedSets();
    }

    public int link(int k) {
        return story.holds(k) ? story.linkAhead(k, ruleSet) : UNKNOWN;
    }

    // ---- 3 ways

    public long ways() {
        fillChain();
        return chain.countWays();
    }

    public long would(int k, int p) {
        if (!story.holds(k) || !people.isThere(p)) {
            return UNKNOWN;
        }
        fillChain();
        chain.countWays();
        return chain.waysThrough(k, p);
    }

    public int conflict(int what) {
        if (what != 0 && what != 1) {
            return OUTSIDE;
        }
        fillChain();
        int end = chain.conflictEnd();
        if (end == NONE || what == 1) {
            return end;
        }
        return chain.conflictBeginning(end);
    }

    public int asked() {
        fillChain();
        chain.countWays();
        int best = NONE;
        long bestMost = 0;
        for (int k = 0; k < story.length(); k++) {
            if (Integer.bitCount(chain.sureSet(k)) >= 2) {
                long most = chain.mostWaysLeft(k);
                if (best == NONE || most < bestMost) {
                    best = k;
                    bestMost = most;
                }
            }
        }
        return best;
    }

    public int run(int r, int what) {
        int first = story.firstOfRun(r);
        if (first == NONE) {
            return UNKNOWN;
        }
        int length = story.runLength(first);
        switch (what) {
            case 0:
                return first;
            case 1:
                return length;
            case 2:
                fillChain();
                return Integer.bitCount(chain.ownSetsJoined(first, length));
            default:
                return OUTSIDE;
        }
    }

    // ---- 4 people

    public int ofPerson(int p, int what) {
        if (!people.isThere(p)) {
            return UNKNOWN;
        }
        if (what < 0 || what > 5) {
            return OUTSIDE;
        }
        if (what == 0) {
            return people.sortOf(p);
        }
        if (what == 5) {
            return (hereSet & bitOf(p)) != 0 ? 1 : 0;
        }
        fillChain();
        chain.countWays();
        switch (what) {
            case 1:
                return chain.hadBy(p);
            case 2:
                return chain.maybeHadBy(p);
            case 3:
                return chain.firstHadBy(p);
            default:
                return chain.lastHadBy(p);
        }
    }

    public int rank(int k) {
        if (!isWithin(k, MOST_PEOPLE)) {
            return OUTSIDE;
        }
        fillChain();
        chain.countWays();
        for (int p = 0; p < MOST_PEOPLE; p++) {
            hasCounts[p] = chain.hadBy(p);
            mayCounts[p] = chain.maybeHadBy(p);
        }
        for (int p = 0; p < MOST_PEOPLE; p++) {
            if (people.isThere(p) && placeByRank(p) == k) {
                return p;
            }
        }
        return NONE;
    }

    public int written(int k, int i) {
        if (!story.holds(k)) {
            return UNKNOWN;
        }
        if (i < -1 || i > LAST_SIGN) {
            return OUTSIDE;
        }
        if (!story.paragraphAt(k).speaks()) {
            return signOfOne(NOT_SPEAKING_SIGN, i);
        }
        fillChain();
        chain.narrow();
        int set = chain.narrowedSet(k);
        return set == 0 ? signOfOne(NOBODY_SIGN, i) : signOfSet(set, i);
    }

    public int many(int what) {
        switch (what) {
            case 0:
                return Integer.bitCount(people.thereSet());
            case 1:
                return story.length();
            case 2:
                return story.speaking();
            case 3:
                return story.runs();
            case 4:
                fillChain();
                chain.countWays();
                return chain.setsSureOfOne();
            case 5:
                return story.hints();
            case 6:
                return tape.length();
            case 7:
                return hereSet;
            case 8:
                return ruleSet;
            default:
                return OUTSIDE;
        }
    }

    // ---- helpers

    private static boolean isWithin(int i, int bound) {
        return i >= 0 && i < bound;
    }

    private static int bitOf(int p) {
        return p >= 0 && p < MOST_PEOPLE ? 1 << p : 0;
    }

    /** OWN sets and LINKS depend on RULES and SORTS of now, so they are read anew for each call. */
    private void fillChain() {
        chain.clear();
        for (int k = 0; k < story.length(); k++) {
            Paragraph paragraph = story.paragraphAt(k);
            boolean speaks = paragraph.speaks();
            int own = speaks ? paragraph.ownSet(people, ruleSet) : 0;
            chain.append(speaks, own, story.linkAhead(k, ruleSet));
        }
    }

    private void keepNarrowedSets() {
        fillChain();
        chain.narrow();
        for (int k = 0; k < MOST_PARAGRAPHS; k++) {
            narrowedBefore[k] = chain.narrowedSet(k);
        }
    }

    private int changedNarrowedSets() {
        fillChain();
        chain.narrow();
        int changed = 0;
        for (int k = 0; k < MOST_PARAGRAPHS; k++) {
            if (narrowedBefore[k] != chain.narrowedSet(k)) {
                changed++;
            }
        }
        return changed;
    }

    private int placeByRank(int p) {
        int place = 0;
        for (int other = 0; other < MOST_PEOPLE; other++) {
            if (people.isThere(other) && ranksAhead(other, p)) {
                place++;
            }
        }
        return place;
    }

    private boolean ranksAhead(int other, int p) {
        if (!isWithin(other, MOST_PEOPLE) || !isWithin(p, MOST_PEOPLE)) {
            return false;
        }
        if (hasCounts[other] != hasCounts[p]) {
            return hasCounts[other] > hasCounts[p];
        }
        if (mayCounts[other] != mayCounts[p]) {
            return mayCounts[other] > mayCounts[p];
        }
        return other < p;
    }

    private static int signOfOne(int sign, int i) {
        if (i == -1) {
            return 1;
        }
        return i == 0 ? sign : NONE;
    }

    private static int signOfSet(int set, int i) {
        int length = 2 * Integer.bitCount(set) - 1;
        if (i == -1) {
            return length;
        }
        if (i >= length) {
            return NONE;
        }
        return i % 2 == 1 ? BETWEEN_SIGN : FIRST_NAME + memberOf(set, i / 2);
    }

    /** The member of a set that has so many others of lower number. */
    private static int memberOf(int set, int lower) {
        int passed = 0;
        for (int p = 0; p < MOST_PEOPLE; p++) {
            if ((set & bitOf(p)) != 0) {
                if (passed == lower) {
                    return p;
                }
                passed++;
            }
        }
        return NONE;
    }

    /** The PEOPLE that are there, with their SORTS. */
    private static final class People {
        private final int[] sorts;
        private int there;

        People() {
            sorts = new int[MOST_PEOPLE];
            there = 0;
        }

        int thereSet() {
            return there;
        }

        boolean isThere(int p) {
            return (there & bitOf(p)) != 0;
        }

        /** NONE, if the PERSON is not there. */
        int sortOf(int p) {
            return isWithin(p, sorts.length) && isThere(p) ? sorts[p] : NONE;
        }

        int allOfSort(int sort) {
            int set = 0;
            for (int p = 0; p < sorts.length; p++) {
                if (sorts[p] == sort) {
                    set |= bitOf(p);
                }
            }
            return set & there;
        }

        /** Whether a code is the name of a PERSON that is there. */
        boolean isName(int code) {
            return isThere(code - FIRST_NAME);
        }

        void bring(int p, int sort) {
            if (isWithin(p, sorts.length)) {
                sorts[p] = sort;
                there |= bitOf(p);
            }
        }

        void takeAway(int p) {
            there &= ~bitOf(p);
        }
    }

    /** The codes that were keyed, and whether they are a TEXT. */
    private static final class Tape {
        private final int[] codes;
        private int count;

        Tape() {
            codes = new int[MOST_CODES];
            count = 0;
        }

        int length() {
            return count;
        }

        boolean isFull() {
            return count >= codes.length;
        }

        int codeAt(int i) {
            return isWithin(i, count) && i < codes.length ? codes[i] : NOTHING;
        }

        void put(int code) {
            if (isWithin(count, codes.length)) {
                codes[count] = code;
                count++;
            }
        }

        void clear() {
            count = 0;
        }

        /** The FIRST FAULT; NONE, if the TAPE has a TEXT. */
        int firstFault(People people, boolean mayGoOn) {
            boolean quoted = false;
            for (int i = 0; i < count; i++) {
                if (!mayStand(i, people, mayGoOn)) {
                    return i;
                }
                quoted = quoted || codeAt(i) == QUOTE;
            }
            boolean lacksName = codeAt(count - 1) == TO_SIGN;
            boolean lacksQuote = codeAt(0) == ON_SIGN && !quoted;
            return count == 0 || lacksName || lacksQuote ? count : NONE;
        }

        /** Whether a TEXT can go on with the code at i, if one can with all ahead of it. */
        private boolean mayStand(int i, People people, boolean mayGoOn) {
            int code = codeAt(i);
            int ahead = codeAt(i - 1);
            if (ahead == TO_SIGN) {
                return people.isName(code);
            }
            switch (code) {
                case ON_SIGN:
                    return i == 0 && mayGoOn;
                case TO_SIGN:
                    // Even where nobody is there: a TAPE that ends with it just ends too soon.
                    return ahead == QUOTE;
                case QUOTE:
                case VERB:
                case OTHER:
                case HE_WORD:
                case SHE_WORD:
                    return true;
                default:
                    return people.isName(code);
            }
        }
    }

    /** One PARAGRAPH: its ITEMS, and what they alone say of who speaks. */
    private static final class Paragraph {
        private final int[] kinds;
        /** Whose name an ITEM is; NOTHING, if it is none. */
        private final int[] persons;
        private int count;
        private boolean on;
        private int here;
        private int hint;
        // What follows from the ITEMS is found once, as they never change.
        private int quoteCount;
        private int mentioned;
        private int spokenTo;
        private int verbCount;
        private int verbNames;
        private boolean heSpeaks;
        private boolean sheSpeaks;
        private int doers;

        Paragraph() {
            kinds = new int[MOST_CODES];
            persons = new int[MOST_CODES];
            forgetAll();
        }

        private void forgetAll() {
            count = 0;
            on = false;
            here = 0;
            hint = NONE;
            quoteCount = 0;
            mentioned = 0;
            spokenTo = 0;
            verbCount = 0;
            verbNames = ALL_PEOPLE;
            heSpeaks = false;
            sheSpeaks = false;
            doers = ALL_PEOPLE;
        }

        /** Becomes what a TAPE without a fault says. */
        void read(Tape tape, int hereNow) {
            forgetAll();
            here = hereNow;
            on = tape.codeAt(0) == ON_SIGN;
            for (int i = on ? 1 : 0; i < tape.length(); i++) {
                int code = tape.codeAt(i);
                if (tape.codeAt(i - 1) == TO_SIGN) {
                    noteSpokenTo(code - FIRST_NAME);
                } else if (code != TO_SIGN) {
                    addItem(code);
                }
            }
            noteVerbs();
            noteDoer();
        }

        private void addItem(int code) {
            if (!isWithin(count, kinds.length) || !isWithin(count, persons.length)) {
                return;
            }
            int p = code - FIRST_NAME;
            boolean named = isWithin(p, MOST_PEOPLE);
            kinds[count] = named ? NAME : code;
            persons[count] = named ? p : NOTHING;
            mentioned |= bitOf(p);
            count++;
            if (code == QUOTE) {
                quoteCount++;
            }
        }

        private void noteSpokenTo(int p) {
            mentioned |= bitOf(p);
            spokenTo |= bitOf(p);
        }

        private void noteVerbs() {
            for (int i = 0; i < count; i++) {
                int who = whoPlace(i);
                if (verbCounts(i, who)) {
                    verbCount++;
                    noteWho(who);
                }
            }
        }

        private void noteWho(int who) {
            switch (kindAt(who)) {
                case NAME:
                    verbNames &= bitOf(personAt(who));
                    break;
                case HE_WORD:
                    heSpeaks = true;
                    break;
                case SHE_WORD:
                    sheSpeaks = true;
                    break;
                default:
                    break;
            }
        }

        private void noteDoer() {
            if (verbCount == 0 && kindAt(0) == NAME && kindAt(1) == OTHER) {
                doers = bitOf(personAt(0));
            }
        }

        private boolean verbCounts(int i, int who) {
            if (kindAt(i) != VERB || who == NONE) {
                return false;
            }
            int ahead = Math.min(i, who) - 1;
            int behind = Math.max(i, who) + 1;
            return kindAt(ahead) == QUOTE || kindAt(behind) == QUOTE;
        }

        /** Where the WHO of a VERB at i would stand; NONE, if it would have none. */
        private int whoPlace(int i) {
            if (isWho(kindAt(i + 1))) {
                return i + 1;
            }
            return isWho(kindAt(i - 1)) ? i - 1 : NONE;
        }

        private static boolean isWho(int kind) {
            return kind == NAME || kind == HE_WORD || kind == SHE_WORD;
        }

        private int kindAt(int i) {
            return isWithin(i, count) && i < kinds.length ? kinds[i] : NOTHING;
        }

        private int personAt(int i) {
            return isWithin(i, count) && i < persons.length ? persons[i] : NOTHING;
        }

        void takeHint(int set) {
            hint = set;
        }

        int length() {
            return count;
        }

        boolean goesOn() {
            return on;
        }

        int hereThen() {
            return here;
        }

        int hintSet() {
            return hint;
        }

        int quotes() {
            return quoteCount;
        }

        boolean speaks() {
            return quoteCount > 0;
        }

        int countingVerbs() {
            return verbCount;
        }

        /** Whether it has a PERSON's name, alone or as one to whom a QUOTE is spoken. */
        boolean mentions(int p) {
            return (mentioned & bitOf(p)) != 0;
        }

        int ownSet(People people, int rules) {
            int set = here & people.thereSet();
            if ((rules & SPOKEN_TO) != 0) {
                set &= ~spokenTo;
            }
            if ((rules & VERBS) != 0) {
                set &= verbNames;
                set &= heSpeaks ? people.allOfSort(HE) : ALL_PEOPLE;
                set &= sheSpeaks ? people.allOfSort(SHE) : ALL_PEOPLE;
            }
            if ((rules & DOING) != 0) {
                set &= doers;
            }
            return hint == NONE ? set : set & hint;
        }
    }

    /** The PARAGRAPHS as they stand. */
    private static final class Story {
        private final Paragraph[] paragraphs;
        /** Stands for a PARAGRAPH that is not there, so that none is ever null. */
        private final Paragraph blank;
        private int count;

        Story() {
            paragraphs = new Paragraph[MOST_PARAGRAPHS];
            for (int k = 0; k < paragraphs.length; k++) {
                paragraphs[k] = new Paragraph();
            }
            blank = new Paragraph();
            count = 0;
        }

        int length() {
            return count;
        }

        boolean isFull() {
            return count >= paragraphs.length;
        }

        boolean holds(int k) {
            return k >= 0 && k < count;
        }

        Paragraph paragraphAt(int k) {
            return holds(k) && k < paragraphs.length ? paragraphs[k] : blank;
        }

        boolean speaksAt(int k) {
            return paragraphAt(k).speaks();
        }

        boolean mayGoOn() {
            return speaksAt(count - 1);
        }

        void append(Tape tape, int hereNow) {
            if (!isFull()) {
                count++;
                paragraphAt(count - 1).read(tape, hereNow);
            }
        }

        void dropLast() {
            if (count > 0) {
                count--;
            }
        }

        boolean namesAnywhere(int p) {
            for (int k = 0; k < count; k++) {
                if (paragraphAt(k).mentions(p)) {
                    return true;
                }
            }
            return false;
        }

        int linkAhead(int k, int rules) {
            if (!speaksAt(k - 1) || !speaksAt(k)) {
                return NOT_LINKED;
            }
            if (paragraphAt(k).goesOn()) {
                return LIKE;
            }
            return (rules & TURNS) != 0 ? UNLIKE : NOT_LINKED;
        }

        int speaking() {
            int speaking = 0;
            for (int k = 0; k < count; k++) {
                if (speaksAt(k)) {
                    speaking++;
                }
            }
            return speaking;
        }

        int hints() {
            int hints = 0;
            for (int k = 0; k < count; k++) {
                if (paragraphAt(k).hintSet() != NONE) {
                    hints++;
                }
            }
            return hints;
        }

        int runs() {
            int runs = 0;
            for (int k = 0; k < count; k++) {
                if (beginsRun(k)) {
                    runs++;
                }
            }
            return runs;
        }

        private boolean beginsRun(int k) {
            return speaksAt(k) && !speaksAt(k - 1);
        }

        /** NONE, if there is no RUN of that number. */
        int firstOfRun(int r) {
            int passed = 0;
            for (int k = 0; k < count; k++) {
                if (beginsRun(k)) {
                    if (passed == r) {
                        return k;
                    }
                    passed++;
                }
            }
            return NONE;
        }

        int runLength(int first) {
            int length = 0;
            for (int k = first; k < count && speaksAt(k); k++) {
                length++;
            }
            return length;
        }
    }

    /** The OWN sets of all PARAGRAPHS with their LINKS, and what follows from them. */
    private static final class Chain {
        private final boolean[] speaking;
        private final int[] owns;
        /** The LINK of each PARAGRAPH and that ahead of it. */
        private final int[] links;
        private final int[] narrowed;
        private final int[] earlier;
        /** By PARAGRAPH and PERSON: WAYS of it and all ahead of it in which that PERSON has it. */
        private final long[] heads;
        /** The same of it and all behind it. */
        private final long[] tails;
        private final int[] sures;
        private int count;

        Chain() {
            speaking = new boolean[MOST_PARAGRAPHS];
            owns = new int[MOST_PARAGRAPHS];
            links = new int[MOST_PARAGRAPHS];
            narrowed = new int[MOST_PARAGRAPHS];
            earlier = new int[MOST_PARAGRAPHS];
            heads = new long[MOST_PARAGRAPHS * MOST_PEOPLE];
            tails = new long[MOST_PARAGRAPHS * MOST_PEOPLE];
            sures = new int[MOST_PARAGRAPHS];
            count = 0;
        }

        void clear() {
            count = 0;
        }

        void append(boolean speaks, int own, int link) {
            if (isWithin(count, MOST_PARAGRAPHS)) {
                speaking[count] = speaks;
                owns[count] = own;
                links[count] = link;
                count++;
            }
        }

        private boolean holds(int k) {
            return isWithin(k, count) && k < MOST_PARAGRAPHS;
        }

        int ownSet(int k) {
            return holds(k) ? owns[k] : 0;
        }

        private int linkAt(int k) {
            return holds(k) ? links[k] : NOT_LINKED;
        }

        int ownSetsWith(int p) {
            int sets = 0;
            for (int k = 0; k < count; k++) {
                if ((ownSet(k) & bitOf(p)) != 0) {
                    sets++;
                }
            }
            return sets;
        }

        int ownSetsJoined(int first, int length) {
            int joined = 0;
            for (int i = 0; i < length; i++) {
                joined |= ownSet(first + i);
            }
            return joined;
        }

        int narrowedSet(int k) {
            return holds(k) ? narrowed[k] : 0;
        }

        void narrow() {
            for (int k = 0; k < MOST_PARAGRAPHS; k++) {
                narrowed[k] = ownSet(k);
            }
            // Each ROUND but the last takes somebody out of a set, so there are no more than these.
            int mostRounds = MOST_PARAGRAPHS * MOST_PEOPLE + 1;
            boolean changed = true;
            for (int round = 0; changed && round < mostRounds; round++) {
                changed = narrowOnce();
            }
        }

        private boolean narrowOnce() {
            for (int k = 0; k < MOST_PARAGRAPHS; k++) {
                earlier[k] = narrowed[k];
            }
            boolean changed = false;
            for (int k = 0; k < MOST_PARAGRAPHS; k++) {
                narrowed[k] = earlier[k]
                        & leftBy(earlierSet(k - 1), linkAt(k))
                        & leftBy(earlierSet(k + 1), linkAt(k + 1));
                changed = changed || narrowed[k] != earlier[k];
            }
            return changed;
        }

        private int earlierSet(int k) {
            return holds(k) ? earlier[k] : 0;
        }

        /** Whom a set next to another one leaves to that one. */
        private static int leftBy(int neighbour, int link) {
            if (link == LIKE) {
                return neighbour;
            }
            boolean barred = link == UNLIKE && Integer.bitCount(neighbour) == 1;
            return barred ? ALL_PEOPLE & ~neighbour : ALL_PEOPLE;
        }

        /** How many WAYS there are; what is said of WAYS and SURE sets below holds behind it. */
        long countWays() {
            long behind = 1;
            for (int k = count - 1; k >= 0; k--) {
                behind = stepOver(tails, k, k + 1, linkAt(k + 1), behind);
            }
            long all = waysWithin(0, count - 1);
            for (int k = 0; k < MOST_PARAGRAPHS; k++) {
                sures[k] = setThrough(k);
            }
            return all;
        }

        /** How many WAYS there are for the PARAGRAPHS first .. last alone. */
        private long waysWithin(int first, int last) {
            long ahead = 1;
            for (int k = first; k <= last; k++) {
                int link = k == first ? NOT_LINKED : linkAt(k);
                ahead = stepOver(heads, k, k - 1, link, ahead);
            }
            return ahead;
        }

        /**
         * From how many WAYS there are up to the neighbour of k (in all, and by PERSON in counts)
         * to how many there are with k too.
         */
        private long stepOver(long[] counts, int k, int neighbour, int link, long before) {
            if (!holds(k) || !speaking[k]) {
                return before;
            }
            long sum = 0;
            for (int p = 0; p < MOST_PEOPLE; p++) {
                long ways = 0;
                if ((ownSet(k) & bitOf(p)) != 0) {
                    ways = fitting(countAt(counts, neighbour, p), link, before);
                }
                int cell = k * MOST_PEOPLE + p;
                if (isWithin(cell, counts.length)) {
                    counts[cell] = ways;
                }
                sum += ways;
            }
            return sum;
        }

        private static long fitting(long same, int link, long all) {
            switch (link) {
                case LIKE:
                    return same;
                case UNLIKE:
                    return all - same;
                default:
                    return all;
            }
        }

        private static long countAt(long[] counts, int k, int p) {
            int cell = k * MOST_PEOPLE + p;
            return isWithin(p, MOST_PEOPLE) && isWithin(cell, counts.length) ? counts[cell] : 0;
        }

        /** WAYS in which a PERSON has a PARAGRAPH. */
        long waysThrough(int k, int p) {
            if (!holds(k) || !speaking[k]) {
                return 0;
            }
            return countAt(heads, k, p) * countAt(tails, k, p);
        }

        int sureSet(int k) {
            return holds(k) ? sures[k] : 0;
        }

        private int setThrough(int k) {
            int set = 0;
            for (int p = 0; p < MOST_PEOPLE; p++) {
                if (waysThrough(k, p) > 0) {
                    set |= bitOf(p);
                }
            }
            return set;
        }

        long mostWaysLeft(int k) {
            long most = 0;
            for (int p = 0; p < MOST_PEOPLE; p++) {
                most = Math.max(most, waysThrough(k, p));
            }
            return most;
        }

        /** NONE, if there is no CONFLICT. */
        int conflictEnd() {
            for (int k = 0; k < count; k++) {
                if (waysWithin(0, k) == 0) {
                    return k;
                }
            }
            return NONE;
        }

        int conflictBeginning(int end) {
            for (int b = end; b >= 0; b--) {
                if (waysWithin(b, end) == 0) {
                    return b;
                }
            }
            return NONE;
        }

        private boolean isHadBy(int k, int p) {
            return isWithin(p, MOST_PEOPLE) && sureSet(k) == bitOf(p);
        }

        int hadBy(int p) {
            int had = 0;
            for (int k = 0; k < count; k++) {
                if (isHadBy(k, p)) {
                    had++;
                }
            }
            return had;
        }

        int maybeHadBy(int p) {
            int maybe = 0;
            for (int k = 0; k < count; k++) {
                if ((sureSet(k) & bitOf(p)) != 0) {
                    maybe++;
                }
            }
            return maybe;
        }

        int firstHadBy(int p) {
            for (int k = 0; k < count; k++) {
                if (isHadBy(k, p)) {
                    return k;
                }
            }
            return NONE;
        }

        int lastHadBy(int p) {
            for (int k = count - 1; k >= 0; k--) {
                if (isHadBy(k, p)) {
                    return k;
                }
            }
            return NONE;
        }

        int setsSureOfOne() {
            int sets = 0;
            for (int k = 0; k < count; k++) {
                if (Integer.bitCount(sureSet(k)) == 1) {
                    sets++;
                }
            }
            return sets;
        }
    }
}
