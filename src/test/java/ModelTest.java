import java.util.ArrayList;
import java.util.List;
import java.util.Random;
import java.util.TreeSet;
import java.util.regex.Pattern;

/**
 * Long runs of calls against a model that is written straight from the document's words and tries
 * every WAY one by one, or counts them for each one told, where they are too many. The seed is fixed, so that each run of the test makes the same calls.
 */
public final class ModelTest {
    private static final int RUNS = 400;
    private static final int CALLS = 512;
    /** A cut, a + and 13 codes with a name each, a PARAGRAPH, a wipe; and 4 questions. */
    private static final int MOST_OF_A_CHANGE = 34;
    private static int wrong = 0;

    public static void main(String[] args) {
        for (int run = 0; run < RUNS && wrong == 0; run++) {
            new Player(run).play();
        }
        System.out.println(wrong == 0 ? "class and model agree" : "class and model do not agree");
        if (wrong != 0) {
            System.exit(1);
        }
    }

    /** One ITEM: its sign, and the letter of a name or of one to whom a QUOTE is spoken (or 0). */
    private record Item(char sign, char letter) {
        boolean isWho() {
            return sign == 'N' || sign == 'h' || sign == 's';
        }
    }

    private static final class Part {
        final List<Item> items = new ArrayList<>();
        boolean on;
        int here;
        int hint = -9;

        boolean speaks() {
            return quotes() > 0;
        }

        long quotes() {
            return items.stream().filter(item -> item.sign() == 'q').count();
        }

        boolean isQuote(int i) {
            return i >= 0 && i < items.size() && items.get(i).sign() == 'q';
        }

        boolean isWho(int i) {
            return i >= 0 && i < items.size() && items.get(i).isWho();
        }

        /** The WHO of each VERB that COUNTS. */
        List<Item> tellers() {
            List<Item> tellers = new ArrayList<>();
            for (int i = 0; i < items.size(); i++) {
                if (items.get(i).sign() != 'v') {
                    continue;
                }
                if (isWho(i + 1)) {
                    if (isQuote(i - 1) || isQuote(i + 2)) {
                        tellers.add(items.get(i + 1));
                    }
                } else if (isWho(i - 1)) {
                    if (isQuote(i - 2) || isQuote(i + 1)) {
                        tellers.add(items.get(i - 1));
                    }
                }
            }
            return tellers;
        }
    }

    /** How many WAYS there are, and in how many of them a PERSON has a PARAGRAPH. */
    private static final class Ways {
        final long[][] told = new long[16][8];
        long count = 0;

        /** Who has which (-1: it does not SPEAK). */
        void add(int[] way, int first, int last) {
            count++;
            for (int k = first; k <= last; k++) {
                if (way[k] >= 0) {
                    told[k][way[k]]++;
                }
            }
        }
    }

    private static final class Model {
        /** Too many WAYS to try them one by one. */
        final boolean large;
        final int[] sorts = {-9, -9, -9, -9, -9, -9, -9, -9};
        final List<Part> parts = new ArrayList<>();
        String tape = "";
        int here = 0;
        int rules = 15;

        Model(boolean large) {
            this.large = large;
        }

        String names() {
            StringBuilder names = new StringBuilder();
            for (int p = 0; p < 8; p++) {
                if (sorts[p] != -9) {
                    names.append((char) ('A' + p));
                }
            }
            return names.toString();
        }

        boolean isText(String text) {
            String name = names().isEmpty() ? "(?!)" : "[" + names() + "]";
            if (!Pattern.matches("\\+?(q@" + name + "|q|v|o|h|s|" + name + ")+", text)) {
                return false;
            }
            boolean mayGoOn = !parts.isEmpty() && parts.get(parts.size() - 1).speaks();
            return text.charAt(0) != '+' || mayGoOn && text.indexOf('q') >= 0;
        }

        /**
         * Whether a TEXT goes on with this: a name and a QUOTE are all that it can lack. A TAPE that
         * ends with a QUOTE and @ just ends too soon whoever is there, so that @ is left out.
         */
        boolean begins(String start) {
            if (start.endsWith("q@")) {
                return begins(start.substring(0, start.length() - 1));
            }
            return isText(start) || isText(start + "q");
        }

        int firstFault() {
            for (int i = 0; i < tape.length(); i++) {
                if (!begins(tape.substring(0, i + 1))) {
                    return i;
                }
            }
            return tape.length();
        }

        int paragraph() {
            if (parts.size() == 16) {
                return -4;
            }
            if (!isText(tape)) {
                return -100 - firstFault();
            }
            Part part = new Part();
            part.on = tape.startsWith("+");
            part.here = here;
            String rest = part.on ? tape.substring(1) : tape;
            while (!rest.isEmpty()) {
                boolean to = rest.startsWith("q@");
                char sign = rest.charAt(0);
                boolean name = Character.isUpperCase(sign);
                part.items.add(new Item(name ? 'N' : sign, to ? rest.charAt(2) : name ? sign : 0));
                rest = rest.substring(to ? 3 : 1);
            }
            parts.add(part);
            tape = "";
            return parts.size() - 1;
        }

        TreeSet<Integer> own(int k) {
            Part part = parts.get(k);
            TreeSet<Integer> own = new TreeSet<>();
            for (int p = 0; p < 8; p++) {
                if (part.speaks() && sorts[p] != -9 && isIn(part.here, p) && mayHave(part, p)) {
                    own.add(p);
                }
            }
            return own;
        }

        private boolean mayHave(Part part, int p) {
            char letter = (char) ('A' + p);
            for (Item item : part.items) {
                if (isIn(rules, 0) && item.sign() == 'q' && item.letter() == letter) {
                    return false;
                }
            }
            List<Item> tellers = part.tellers();
            for (Item who : tellers) {
                boolean fits = who.sign() == 'N' ? who.letter() == letter
                        : sorts[p] == (who.sign() == 'h' ? 0 : 1);
                if (isIn(rules, 1) && !fits) {
                    return false;
                }
            }
            boolean does = tellers.isEmpty() && part.items.size() > 1
                    && part.items.get(0).sign() == 'N' && part.items.get(1).sign() == 'o';
            if (isIn(rules, 2) && does && part.items.get(0).letter() != letter) {
                return false;
            }
            return part.hint == -9 || isIn(part.hint, p);
        }

        int link(int k) {
            if (k == 0 || !parts.get(k - 1).speaks() || !parts.get(k).speaks()) {
                return 0;
            }
            return parts.get(k).on ? 1 : isIn(rules, 3) ? 2 : 0;
        }

        List<TreeSet<Integer>> owns() {
            List<TreeSet<Integer>> owns = new ArrayList<>();
            for (int k = 0; k < parts.size(); k++) {
                owns.add(own(k));
            }
            return owns;
        }

        List<TreeSet<Integer>> narrowed() {
            List<TreeSet<Integer>> now = owns();
            List<TreeSet<Integer>> last;
            do {
                last = now;
                now = new ArrayList<>();
                for (int k = 0; k < last.size(); k++) {
                    TreeSet<Integer> set = new TreeSet<>(last.get(k));
                    for (int n = k - 1; n <= k + 1; n += 2) {
                        if (n < 0 || n >= last.size()) {
                            continue;
                        }
                        int link = link(Math.max(n, k));
                        if (link == 1) {
                            set.retainAll(last.get(n));
                        } else if (link == 2 && last.get(n).size() == 1) {
                            set.removeAll(last.get(n));
                        }
                    }
                    now.add(set);
                }
            } while (!now.equals(last));
            return now;
        }

        /** The WAYS of PARAGRAPHS first .. last: tried one by one, where they are not too many. */
        Ways ways(int first, int last) {
            Ways ways = new Ways();
            if (!large) {
                extend(ways, new int[parts.size()], first, first, last);
                return ways;
            }
            List<TreeSet<Integer>> owns = owns();
            ways.count = counted(owns, first, last);
            for (int k = first; k <= last; k++) {
                TreeSet<Integer> all = owns.get(k);
                for (int p : all) {
                    TreeSet<Integer> one = new TreeSet<>();
                    one.add(p);
                    owns.set(k, one);
                    ways.told[k][p] = counted(owns, first, last);
                }
                owns.set(k, all);
            }
            return ways;
        }

        private void extend(Ways ways, int[] way, int first, int k, int last) {
            if (k > last) {
                ways.add(way, first, last);
                return;
            }
            if (!parts.get(k).speaks()) {
                way[k] = -1;
                extend(ways, way, first, k + 1, last);
                return;
            }
            for (int p : own(k)) {
                int link = k == first ? 0 : link(k);
                if (link == 0 || (link == 1) == (way[k - 1] == p)) {
                    way[k] = p;
                    extend(ways, way, first, k + 1, last);
                }
            }
        }

        /** How many WAYS there are with other OWN sets, from who has the PARAGRAPH ahead. */
        private long counted(List<TreeSet<Integer>> owns, int first, int last) {
            long all = 1;
            long[] ahead = new long[8];
            for (int k = first; k <= last; k++) {
                if (!parts.get(k).speaks()) {
                    continue;
                }
                int link = k == first ? 0 : link(k);
                long sum = 0;
                long[] now = new long[8];
                for (int p : owns.get(k)) {
                    now[p] = link == 0 ? all : link == 1 ? ahead[p] : all - ahead[p];
                    sum += now[p];
                }
                ahead = now;
                all = sum;
            }
            return all;
        }

        Ways ways() {
            return ways(0, parts.size() - 1);
        }

        static TreeSet<Integer> sure(Ways ways, int k) {
            TreeSet<Integer> sure = new TreeSet<>();
            for (int p = 0; p < 8; p++) {
                if (ways.told[k][p] > 0) {
                    sure.add(p);
                }
            }
            return sure;
        }

        int conflict(int what) {
            for (int end = 0; end < parts.size(); end++) {
                if (ways(0, end).count == 0) {
                    int begin = end;
                    while (ways(begin, end).count > 0) {
                        begin--;
                    }
                    return what == 0 ? begin : end;
                }
            }
            return -9;
        }

        int asked() {
            Ways ways = ways();
            int best = -9;
            long fewest = Long.MAX_VALUE;
            for (int k = 0; k < parts.size(); k++) {
                TreeSet<Integer> sure = sure(ways, k);
                long most = 0;
                for (int p : sure) {
                    most = Math.max(most, ways.told[k][p]);
                }
                if (sure.size() >= 2 && most < fewest) {
                    fewest = most;
                    best = k;
                }
            }
            return best;
        }

        /** Numbers of the PARAGRAPHS of each RUN. */
        List<List<Integer>> runs() {
            List<List<Integer>> runs = new ArrayList<>();
            boolean open = false;
            for (int k = 0; k < parts.size(); k++) {
                boolean speaks = parts.get(k).speaks();
                if (speaks && !open) {
                    runs.add(new ArrayList<>());
                }
                if (speaks) {
                    runs.get(runs.size() - 1).add(k);
                }
                open = speaks;
            }
            return runs;
        }

        /** Numbers of the PARAGRAPHS that a PERSON HAS, or (alone false) MAY HAVE. */
        List<Integer> had(Ways ways, int p, boolean alone) {
            List<Integer> had = new ArrayList<>();
            for (int k = 0; k < parts.size(); k++) {
                TreeSet<Integer> sure = sure(ways, k);
                if (sure.contains(p) && (!alone || sure.size() == 1)) {
                    had.add(k);
                }
            }
            return had;
        }

        List<Integer> ranks() {
            Ways ways = ways();
            List<Integer> people = new ArrayList<>();
            for (char name : names().toCharArray()) {
                people.add(name - 'A');
            }
            people.sort((a, b) -> {
                int has = had(ways, b, true).size() - had(ways, a, true).size();
                int may = had(ways, b, false).size() - had(ways, a, false).size();
                return has != 0 ? has : may != 0 ? may : a - b;
            });
            return people;
        }

        String written(int k) {
            if (!parts.get(k).speaks()) {
                return ".";
            }
            List<String> letters = new ArrayList<>();
            for (int p : narrowed().get(k)) {
                letters.add(String.valueOf((char) ('A' + p)));
            }
            return letters.isEmpty() ? "!" : String.join("/", letters);
        }
    }

    private static boolean isIn(int set, int p) {
        return (set >> p & 1) == 1;
    }

    private static int bits(TreeSet<Integer> set) {
        int bits = 0;
        for (int p : set) {
            bits |= 1 << p;
        }
        return bits;
    }

    /** Makes the same calls on the class and on the model. */
    private static final class Player {
        final WhoSpeaks x = new WhoSpeaks();
        final Model m;
        final List<String> calls = new ArrayList<>();
        final Random random;
        /** Few PEOPLE and PARAGRAPHS in most runs, so that all WAYS can be tried; all in some. */
        final int people;
        final int paragraphs;

        Player(int run) {
            random = new Random(run);
            boolean alone = run % 8 == 0;
            boolean large = run % 8 == 4;
            m = new Model(large);
            people = large ? 8 : alone ? 2 : 3 + run % 3;
            paragraphs = large || alone ? 17 : 8 - run % 3;
        }

        void due(String call, long got, long want) {
            calls.add(call + " = " + got);
            if (got != want && wrong == 0) {
                wrong++;
                calls.forEach(System.out::println);
                System.out.println("  the model says " + want);
            }
        }

        void play() {
            if (random.nextInt(10) > 0) {
                for (int p = 0; p < people; p++) {
                    person(p, random.nextInt(3));
                }
                here((1 << people) - 1);
            }
            while (calls.size() < CALLS - MOST_OF_A_CHANGE && wrong == 0) {
                change();
                for (int i = 0; i < 4; i++) {
                    ask();
                }
            }
            while (calls.size() < CALLS && wrong == 0) {
                ask();
            }
        }

        /** Mostly within the bounds, at times a step or far out of them. */
        int number(int low, int high) {
            int far = random.nextInt(40);
            if (far == 0) {
                return random.nextInt();
            }
            return far < 3 ? low - 1 : far < 5 ? high + 1 : low + random.nextInt(high - low + 1);
        }

        int place() {
            return number(0, Math.max(0, m.parts.size() - 1));
        }

        int somebody() {
            return number(0, people - 1);
        }

        void change() {
            switch (random.nextInt(12)) {
                case 0 -> person(somebody(), number(0, 2));
                case 1 -> away(somebody());
                case 2 -> here(number(0, (1 << people) - 1));
                case 3 -> rules(random.nextInt(3) == 0 ? number(0, 15) : 15);
                case 4 -> hint(place(), random.nextInt(3) == 0 ? -9 : number(1, (1 << people) - 1));
                case 5 -> {
                    if (random.nextInt(3) == 0) {
                        due("wipe", x.wipe(), m.tape.length());
                        m.tape = "";
                    } else {
                        cut();
                    }
                }
                default -> write();
            }
        }

        void write() {
            if (m.parts.size() >= paragraphs) {
                cut();
            }
            String signs = "qqqqqqvvvvoohs@@@ABCDEFGH".substring(0, 17 + people);
            if (random.nextInt(3) == 0) {
                key('+');
            }
            int length = random.nextInt(20) == 0 ? 13 : random.nextInt(8);
            for (int i = 0; i < length; i++) {
                boolean odd = random.nextInt(40) == 0;
                char sign = signs.charAt(random.nextInt(signs.length()));
                boolean afterQuote = m.tape.endsWith("q");
                key(odd ? number(0, 127) : sign == '@' && !afterQuote ? 'q' : sign);
                if (m.tape.endsWith("@") && random.nextInt(10) > 0) {
                    key('A' + random.nextInt(people));
                }
            }
            due("paragraph", x.paragraph(), m.paragraph());
            if (random.nextInt(10) > 0) {
                due("wipe", x.wipe(), m.tape.length());
                m.tape = "";
            }
        }

        void key(int code) {
            int want = -2;
            if (code >= 0 && code <= 127) {
                want = m.tape.length() == 12 ? -4 : m.tape.length() + 1;
                m.tape += want == -4 ? "" : String.valueOf((char) code);
            }
            due("key(" + code + ")", x.key(code), want);
        }

        void cut() {
            int want = m.parts.isEmpty() ? -3 : m.parts.size() - 1;
            if (want >= 0) {
                m.parts.remove(want);
            }
            due("cut", x.cut(), want);
        }

        void person(int p, int sort) {
            int want = p < 0 || p > 7 ? -1 : sort < 0 || sort > 2 ? -2 : m.sorts[p];
            if (want != -1 && want != -2) {
                m.sorts[p] = sort;
            }
            due("person(" + p + ", " + sort + ")", x.person(p, sort), want);
        }

        boolean isThere(int p) {
            return p >= 0 && p <= 7 && m.sorts[p] != -9;
        }

        void away(int p) {
            int want = -1;
            if (isThere(p)) {
                char letter = (char) ('A' + p);
                boolean named = m.parts.stream()
                        .anyMatch(part -> part.items.stream().anyMatch(item -> item.letter() == letter));
                want = named ? -3 : (int) m.owns().stream().filter(own -> own.contains(p)).count();
                if (!named) {
                    m.sorts[p] = -9;
                    m.here &= ~(1 << p);
                }
            }
            due("away(" + p + ")", x.away(p), want);
        }

        void here(int set) {
            int there = 0;
            for (int p = 0; p < 8; p++) {
                there |= isThere(p) ? 1 << p : 0;
            }
            int want = (set | there) != there ? -2 : m.here;
            m.here = want == -2 ? m.here : set;
            due("here(" + set + ")", x.here(set), want);
        }

        void rules(int set) {
            int want = set < 0 || set > 15 ? -2 : m.rules;
            m.rules = want == -2 ? m.rules : set;
            due("rules(" + set + ")", x.rules(set), want);
        }

        boolean isPart(int k) {
            return k >= 0 && k < m.parts.size();
        }

        void hint(int k, int set) {
            int want = !isPart(k) ? -1 : set != -9 && (set < 1 || set > 255) ? -2
                    : !m.parts.get(k).speaks() ? -3 : 0;
            if (want == 0) {
                List<TreeSet<Integer>> before = m.narrowed();
                m.parts.get(k).hint = set;
                List<TreeSet<Integer>> after = m.narrowed();
                for (int i = 0; i < before.size(); i++) {
                    want += before.get(i).equals(after.get(i)) ? 0 : 1;
                }
            }
            due("hint(" + k + ", " + set + ")", x.hint(k, set), want);
        }

        void ask() {
            switch (random.nextInt(13)) {
                case 0 -> ofParagraph(place(), number(0, 5));
                case 1, 2 -> set(place(), number(0, 2));
                case 3 -> {
                    int k = place();
                    due("link(" + k + ")", x.link(k), isPart(k) ? m.link(k) : -1);
                }
                case 4 -> due("ways", x.ways(), m.ways().count);
                case 5 -> {
                    int k = place();
                    int p = somebody();
                    due("would(" + k + ", " + p + ")", x.would(k, p),
                            isPart(k) && isThere(p) ? m.ways().told[k][p] : -1);
                }
                case 6 -> {
                    int what = number(0, 1);
                    due("conflict(" + what + ")", x.conflict(what),
                            what == 0 || what == 1 ? m.conflict(what) : -2);
                }
                case 7 -> due("asked", x.asked(), m.asked());
                case 8 -> run(number(0, Math.max(0, m.runs().size() - 1)), number(0, 2));
                case 9 -> ofPerson(somebody(), number(0, 5));
                case 10 -> {
                    int k = number(0, 7);
                    List<Integer> ranks = m.ranks();
                    due("rank(" + k + ")", x.rank(k),
                            k < 0 || k > 7 ? -2 : k < ranks.size() ? ranks.get(k) : -9);
                }
                case 11 -> written(place(), number(-1, 14));
                default -> many(number(0, 8));
            }
        }

        void ofParagraph(int k, int what) {
            long want = -1;
            if (isPart(k)) {
                Part part = m.parts.get(k);
                want = switch (what) {
                    case 0 -> part.items.size();
                    case 1 -> part.quotes();
                    case 2 -> part.on ? 1 : 0;
                    case 3 -> part.here;
                    case 4 -> part.tellers().size();
                    case 5 -> part.hint;
                    default -> -2;
                };
            }
            due("ofParagraph(" + k + ", " + what + ")", x.ofParagraph(k, what), want);
        }

        void set(int k, int what) {
            int want = -1;
            if (isPart(k)) {
                want = what < 0 || what > 2 ? -2 : !m.parts.get(k).speaks() ? -9
                        : bits(what == 0 ? m.own(k) : what == 1 ? m.narrowed().get(k)
                        : Model.sure(m.ways(), k));
            }
            due("set(" + k + ", " + what + ")", x.set(k, what), want);
        }

        void run(int r, int what) {
            List<List<Integer>> runs = m.runs();
            int want = -1;
            if (r >= 0 && r < runs.size()) {
                TreeSet<Integer> joined = new TreeSet<>();
                runs.get(r).forEach(k -> joined.addAll(m.own(k)));
                want = switch (what) {
                    case 0 -> runs.get(r).get(0);
                    case 1 -> runs.get(r).size();
                    case 2 -> joined.size();
                    default -> -2;
                };
            }
            due("run(" + r + ", " + what + ")", x.run(r, what), want);
        }

        void ofPerson(int p, int what) {
            int want = -1;
            if (isThere(p)) {
                Ways ways = m.ways();
                List<Integer> has = m.had(ways, p, true);
                want = switch (what) {
                    case 0 -> m.sorts[p];
                    case 1 -> has.size();
                    case 2 -> m.had(ways, p, false).size();
                    case 3 -> has.isEmpty() ? -9 : has.get(0);
                    case 4 -> has.isEmpty() ? -9 : has.get(has.size() - 1);
                    case 5 -> m.here >> p & 1;
                    default -> -2;
                };
            }
            due("ofPerson(" + p + ", " + what + ")", x.ofPerson(p, what), want);
        }

        void written(int k, int i) {
            int want = -1;
            if (isPart(k)) {
                String written = m.written(k);
                want = i < -1 || i > 14 ? -2 : i == -1 ? written.length()
                        : i < written.length() ? written.charAt(i) : -9;
            }
            due("written(" + k + ", " + i + ")", x.written(k, i), want);
        }

        void many(int what) {
            long want = switch (what) {
                case 0 -> m.names().length();
                case 1 -> m.parts.size();
                case 2 -> m.parts.stream().filter(Part::speaks).count();
                case 3 -> m.runs().size();
                case 4 -> {
                    Ways ways = m.ways();
                    long sure = 0;
                    for (int k = 0; k < m.parts.size(); k++) {
                        sure += Model.sure(ways, k).size() == 1 ? 1 : 0;
                    }
                    yield sure;
                }
                case 5 -> m.parts.stream().filter(part -> part.hint != -9).count();
                case 6 -> m.tape.length();
                case 7 -> m.here;
                case 8 -> m.rules;
                default -> -2;
            };
            due("many(" + what + ")", x.many(what), want);
        }
    }
}
