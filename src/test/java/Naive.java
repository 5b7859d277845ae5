import java.util.ArrayDeque;
import java.util.ArrayList;
import java.util.Arrays;
import java.util.Comparator;
import java.util.HashMap;
import java.util.HashSet;
import java.util.List;
import java.util.Map;
import java.util.Set;
import java.util.TreeMap;
import java.util.TreeSet;

/** The document's words done in the plainest way, with texts and sets, to compare the program with. */
final class Naive {
    static final Comparator<String> ORDER =
            Comparator.comparingInt(String::length).thenComparing(Comparator.naturalOrder());

    record Edge(int from, int letter, int to, String word) {
    }

    final int states;
    final List<Edge> edges = new ArrayList<>();
    final String[] closing;
    String opening = "";

    Naive(int states) {
        this.states = states;
        this.closing = new String[states];
    }

    /** Told as for Check.tell(). */
    static Naive told(int states, String edges, String ends) {
        Naive machine = new Naive(states);
        for (String e : edges.split(" ")) {
            machine.edges.add(new Edge(e.charAt(0) - '0', e.charAt(1) - '0', e.charAt(2) - '0', e.substring(3)));
        }
        for (String end : ends.split(" ")) {
            machine.closing[end.charAt(0) - '0'] = end.substring(1);
        }
        return machine;
    }

    void tell(WriterDesk desk, int m) {
        desk.machine(m, states);
        for (Edge e : edges) {
            Check.edge(desk, m, e.from, e.letter, e.to, e.word);
        }
        for (int q = 0; q < states; q++) {
            if (closing[q] != null) {
                Check.last(desk, m, q, closing[q]);
            }
        }
        Check.first(desk, m, opening);
    }

    boolean reaches(int from, int to) {
        Set<Integer> seen = new HashSet<>(Set.of(from));
        for (int round = 0; round < states; round++) {
            for (Edge e : edges) {
                if (seen.contains(e.from)) {
                    seen.add(e.to);
                }
            }
        }
        return seen.contains(to);
    }

    boolean isUseful(int q) {
        for (int end = 0; end < states; end++) {
            if (closing[end] != null && reaches(0, q) && reaches(q, end)) {
                return true;
            }
        }
        return false;
    }

    /** Only what counts. */
    Naive trimmed() {
        Naive trim = new Naive(states);
        for (int q = 0; q < states; q++) {
            trim.closing[q] = isUseful(q) ? closing[q] : null;
        }
        for (Edge e : edges) {
            if (isUseful(e.from) && isUseful(e.to)) {
                trim.edges.add(e);
            }
        }
        trim.opening = opening;
        return trim;
    }

    int useful() {
        int n = 0;
        for (int q = 0; q < states; q++) {
            n += isUseful(q) ? 1 : 0;
        }
        return n;
    }

    /** State and what is written so far, of a trimmed machine. */
    Set<String> begin() {
        return isUseful(0) ? Set.of("0" + opening) : Set.of();
    }

    Set<String> after(Set<String> ways, int letter) {
        Set<String> then = new HashSet<>();
        for (String way : ways) {
            for (Edge e : edges) {
                if (e.from == way.charAt(0) - '0' && e.letter == letter) {
                    then.add(e.to + way.substring(1) + e.word);
                }
            }
        }
        return then;
    }

    TreeSet<String> outputs(Set<String> ways) {
        TreeSet<String> all = new TreeSet<>(ORDER);
        for (String way : ways) {
            if (closing[way.charAt(0) - '0'] != null) {
                all.add(way.substring(1) + closing[way.charAt(0) - '0']);
            }
        }
        return all;
    }

    /** Null when there are too many ways. */
    static List<String> read(Naive machine, String word) {
        Naive trim = machine.trimmed();
        Set<String> ways = trim.begin();
        for (char letter : word.toCharArray()) {
            ways = trim.after(ways, letter - '0');
            if (ways.size() > 200) {
                return null;
            }
        }
        return new ArrayList<>(trim.outputs(ways));
    }

    /** What firstApart() answers when it would have to look at too many ways. */
    static final String NOT_KNOWN = "not known";

    /** A word, and all ways of two machines to read it. */
    record Reached(String word, Set<String> oneWays, Set<String> twoWays) {
        /** Without what all of them have written alike: what comes behind the word does not ask for it. */
        Reached cut() {
            Set<String> all = new HashSet<>(oneWays);
            all.addAll(twoWays);
            String lead = null;
            for (String way : all) {
                String written = way.substring(1);
                lead = lead == null ? written : lead.substring(0, alike(lead, written));
            }
            return lead == null ? this : new Reached(word, without(oneWays, lead.length()),
                    without(twoWays, lead.length()));
        }

        private static Set<String> without(Set<String> ways, int signs) {
            Set<String> cut = new HashSet<>();
            for (String way : ways) {
                cut.add(way.charAt(0) + way.substring(1 + signs));
            }
            return cut;
        }
    }

    /** The first word with two outputs, or with outputs that are not the same for both machines; null when none has. */
    static String firstApart(Naive one, Naive two, int mostWays) {
        Naive a = one.trimmed();
        Naive b = two.trimmed();
        ArrayDeque<Reached> words = new ArrayDeque<>();
        Set<List<Set<String>>> seen = new HashSet<>();
        words.add(new Reached("", a.begin(), b.begin()));
        int ways = 0;
        while (!words.isEmpty()) {
            Reached now = words.poll();
            TreeSet<String> outputs = a.outputs(now.oneWays);
            if (!outputs.equals(b.outputs(now.twoWays)) || outputs.size() > 1) {
                return now.word;
            }
            for (int letter = 0; letter < 3; letter++) {
                Reached then = new Reached(now.word + letter, a.after(now.oneWays, letter),
                        b.after(now.twoWays, letter)).cut();
                if (seen.add(List.of(then.oneWays, then.twoWays))) {
                    words.add(then);
                    ways += then.oneWays.size() + then.twoWays.size();
                }
            }
            if (ways > mostWays) {
                return NOT_KNOWN;
            }
        }
        return null;
    }

    static int alike(String one, String two) {
        int n = 0;
        while (n < one.length() && n < two.length() && one.charAt(n) == two.charAt(n)) {
            n++;
        }
        return n;
    }

    /** "steady", "unsteady" or "too many", for a function. */
    static String steadiness(Naive machine) {
        Naive trim = machine.trimmed();
        int n = machine.useful();
        int g = Math.max(1, trim.opening.length());
        for (Edge e : trim.edges) {
            g = Math.max(g, e.word.length());
        }
        for (String word : trim.closing) {
            g = Math.max(g, word == null ? 0 : word.length());
        }
        Set<List<String>> all = new HashSet<>();
        Set<List<String>> now = new HashSet<>();
        if (n > 0) {
            now.add(List.of("0", "0", "", ""));
        }
        while (!now.isEmpty()) {
            all.addAll(now);
            for (List<String> x : now) {
                if (x.get(2).length() > n * n * g || x.get(3).length() > n * n * g) {
                    return "unsteady";
                }
            }
            if (all.size() > 3000) {
                return "too many";
            }
            Set<List<String>> then = new HashSet<>();
            for (List<String> x : now) {
                trim.addResiduals(x, then);
            }
            then.removeAll(all);
            now = then;
        }
        return "steady";
    }

    private void addResiduals(List<String> x, Set<List<String>> then) {
        for (Edge e : edges) {
            for (Edge f : edges) {
                if (e.letter == f.letter && x.get(0).equals("" + e.from) && x.get(1).equals("" + f.from)) {
                    String u = x.get(2) + e.word;
                    String v = x.get(3) + f.word;
                    int k = alike(u, v);
                    then.add(List.of("" + e.to, "" + f.to, u.substring(k), v.substring(k)));
                }
            }
        }
    }

    /** A machine that never guesses, with texts for what it writes; null is no edge, no final word. */
    static final class Plain {
        String opening = "";
        final List<int[]> targets = new ArrayList<>();
        final List<String[]> words = new ArrayList<>();
        final List<String> closings = new ArrayList<>();
    }

    /** As Check.made() has it; null when a set of sets grows too large to be sure. */
    static String smallest(Naive machine, int mostSets) {
        if (machine.useful() == 0) {
            return "|- - - -";
        }
        Plain plain = machine.trimmed().determined(mostSets);
        if (plain == null) {
            return null;
        }
        writeEarly(plain);
        return numbered(plain, merged(plain));
    }

    private Plain determined(int mostSets) {
        Plain plain = new Plain();
        plain.opening = opening;
        Map<TreeMap<Integer, String>, Integer> numbers = new HashMap<>();
        List<TreeMap<Integer, String>> sets = new ArrayList<>();
        TreeMap<Integer, String> begin = new TreeMap<>(Map.of(0, ""));
        numbers.put(begin, 0);
        sets.add(begin);
        for (int i = 0; i < sets.size(); i++) {
            if (i > mostSets) {
                return null;
            }
            TreeMap<Integer, String> set = sets.get(i);
            String end = null;
            int[] to = {-1, -1, -1};
            String[] words = new String[3];
            for (int q : set.keySet()) {
                end = closing[q] == null ? end : set.get(q) + closing[q];
            }
            for (int letter = 0; letter < 3; letter++) {
                TreeMap<Integer, String> then = new TreeMap<>();
                for (Edge e : edges) {
                    if (e.letter == letter && set.containsKey(e.from)) {
                        then.put(e.to, set.get(e.from) + e.word);
                    }
                }
                if (!then.isEmpty()) {
                    String lead = then.firstEntry().getValue();
                    for (String word : then.values()) {
                        lead = lead.substring(0, alike(lead, word));
                    }
                    int cut = lead.length();
                    then.replaceAll((q, word) -> word.substring(cut));
                    if (!numbers.containsKey(then)) {
                        numbers.put(then, sets.size());
                        sets.add(then);
                    }
                    to[letter] = numbers.get(then);
                    words[letter] = lead;
                }
            }
            plain.targets.add(to);
            plain.words.add(words);
            plain.closings.add(end);
        }
        return plain;
    }

    private static void writeEarly(Plain plain) {
        int n = plain.targets.size();
        String[] heads = new String[n];
        boolean changed = true;
        while (changed) {
            changed = false;
            for (int q = n - 1; q >= 0; q--) {
                String head = plain.closings.get(q);
                for (int letter = 0; letter < 3; letter++) {
                    int to = plain.targets.get(q)[letter];
                    if (to >= 0 && heads[to] != null) {
                        String way = plain.words.get(q)[letter] + heads[to];
                        head = head == null ? way : head.substring(0, alike(head, way));
                    }
                }
                if (head != null && !head.equals(heads[q])) {
                    heads[q] = head;
                    changed = true;
                }
            }
        }
        plain.opening += heads[0];
        for (int q = 0; q < n; q++) {
            int cut = heads[q].length();
            for (int letter = 0; letter < 3; letter++) {
                int to = plain.targets.get(q)[letter];
                if (to >= 0) {
                    plain.words.get(q)[letter] = (plain.words.get(q)[letter] + heads[to]).substring(cut);
                }
            }
            if (plain.closings.get(q) != null) {
                plain.closings.set(q, plain.closings.get(q).substring(cut));
            }
        }
    }

    /** For each state the number of its class. */
    private static int[] merged(Plain plain) {
        int n = plain.targets.size();
        int[] kind = new int[n];
        int kinds = 1;
        while (true) {
            Map<List<Object>, Integer> numbers = new HashMap<>();
            int[] finer = new int[n];
            for (int q = 0; q < n; q++) {
                List<Object> key = new ArrayList<>();
                key.add(kind[q]);
                key.add(plain.closings.get(q));
                for (int letter = 0; letter < 3; letter++) {
                    int to = plain.targets.get(q)[letter];
                    key.add(to < 0 ? -1 : kind[to]);
                    key.add(plain.words.get(q)[letter]);
                }
                numbers.putIfAbsent(key, numbers.size());
                finer[q] = numbers.get(key);
            }
            if (numbers.size() == kinds) {
                return finer;
            }
            kinds = numbers.size();
            kind = finer;
        }
    }

    private static String numbered(Plain plain, int[] kind) {
        int[] number = new int[kind.length];
        Arrays.fill(number, -1);
        List<Integer> order = new ArrayList<>(List.of(0));
        number[kind[0]] = 0;
        StringBuilder text = new StringBuilder(plain.opening);
        for (int i = 0; i < order.size(); i++) {
            int q = order.get(i);
            text.append('|');
            for (int letter = 0; letter < 3; letter++) {
                int to = plain.targets.get(q)[letter];
                if (to < 0) {
                    text.append("- ");
                } else {
                    if (number[kind[to]] < 0) {
                        number[kind[to]] = order.size();
                        order.add(to);
                    }
                    text.append(number[kind[to]]).append(':').append(plain.words.get(q)[letter]).append(' ');
                }
            }
            text.append(plain.closings.get(q) == null ? "-" : "." + plain.closings.get(q));
        }
        return text.toString();
    }

    static int statesOf(String made) {
        return made.length() - made.replace("|", "").length();
    }
}
