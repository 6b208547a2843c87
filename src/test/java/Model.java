import java.math.BigInteger;
import java.util.ArrayDeque;
import java.util.ArrayList;
import java.util.Deque;
import java.util.List;
import java.util.Map;
import java.util.Set;
import java.util.TreeMap;
import java.util.TreeSet;
import java.util.regex.Matcher;
import java.util.regex.Pattern;

/** The document told a second time, in other ways than the class: what ModelTest holds it against. */
final class Model {
    static final int NONE = -1, UNKNOWN = -2, OUTSIDE = -3, NOT = -4, FULL = -5;
    private static final List<String> KINDS = List.of("plain", "smooth", "shy", "host");
    private static final List<Set<Integer>> IS = List.of(Set.of(0, 1), Set.of(0, 1, 2), Set.of(0, 1, 3), Set.of(0, 4));
    private static final Pattern TOKEN = Pattern.compile("[a-z]+|[0-9]+|[^ ]", Pattern.DOTALL);

    /** One state of the world; copied whole, never shared. */
    private static final class World {
        final List<String> kinds = new ArrayList<>();
        final Map<List<Integer>, Integer> roles = new TreeMap<>((a, b) ->
                a.get(0).equals(b.get(0)) ? a.get(1) - b.get(1) : a.get(0) - b.get(0));
        final Set<Integer> room = new TreeSet<>();
        int evening = 0;

        World copy() {
            World w = new World();
            w.kinds.addAll(kinds);
            w.roles.putAll(roles);
            w.room.addAll(room);
            w.evening = evening;
            return w;
        }

        boolean known(int p) {
            return 0 <= p && p < kinds.size();
        }

        boolean pair(int p, int o) {
            return known(p) && known(o) && p != o;
        }

        boolean isSet(int company) {
            return company >= 0 && (company >> kinds.size()) == 0;
        }

        Set<Integer> must(Set<Integer> company, int p) {
            Set<Integer> all = new TreeSet<>();
            if (company.contains(p)) {
                roles.forEach((pair, role) -> {
                    if (pair.get(0) == p && company.contains(pair.get(1))) {
                        all.add(role);
                    }
                });
            }
            return all;
        }

        boolean two(Set<Integer> company, int p) {
            int size = must(company, p).size();
            return switch (kinds.get(p)) {
                case "smooth" -> size > 2;
                case "host" -> false;
                default -> size > 1;
            };
        }

        Set<Integer> clash(Set<Integer> company) {
            Set<Integer> all = new TreeSet<>(company);
            all.removeIf(p -> !two(company, p));
            return all;
        }

        Set<Integer> evening() {
            World was = copy();
            Set<Integer> leave = new TreeSet<>();
            for (int p : was.room) {
                Set<Integer> must = was.must(was.room, p);
                if (was.two(was.room, p)) {
                    if (kinds.get(p).equals("shy")) {
                        leave.add(p);
                    }
                } else if (must.size() == 1) {
                    for (int o : was.room) {
                        if (o != p && !was.roles.containsKey(List.of(p, o))) {
                            roles.put(List.of(p, o), must.iterator().next());
                        }
                    }
                }
            }
            room.removeAll(leave);
            evening++;
            return leave;
        }
    }

    private record Sight(Set<Integer> company, int person, int role) { }

    private final StringBuilder text = new StringBuilder();
    private World told = new World();
    private World now = new World();
    private final Deque<World> past = new ArrayDeque<>();
    private final World[] kept = new World[2];
    private final List<Sight> sights = new ArrayList<>();

    private static Set<Integer> set(int bits) {
        Set<Integer> s = new TreeSet<>();
        for (int i = 0; i < 31; i++) {
            if ((bits & (1 << i)) != 0) {
                s.add(i);
            }
        }
        return s;
    }

    private static int bits(Set<Integer> set) {
        return set.stream().mapToInt(i -> 1 << i).sum();
    }

    int write(int letter) {
        if (letter < 0 || letter > 255) {
            return OUTSIDE;
        }
        if (text.length() == 160) {
            return FULL;
        }
        text.append((char) letter);
        return text.length();
    }

    int erase() {
        int n = text.length();
        text.setLength(0);
        return n;
    }

    /** Either the place of the fault, or -(clauses + 1); the world is changed up to there. */
    private int read(World w) {
        List<String> tokens = new ArrayList<>();
        List<Integer> places = new ArrayList<>();
        Matcher m = TOKEN.matcher(text);
        while (m.find()) {
            tokens.add(m.group());
            places.add(m.start());
        }
        tokens.add("");
        places.add(text.length());
        int i = 0;
        int clauses = 0;
        while (true) {
            String word = tokens.get(i);
            int want = word.equals("as") ? 3 : word.equals("room") ? 1 : 0;
            if (!word.equals("season") && want == 0 && (!KINDS.contains(word) || w.kinds.size() == 6)) {
                return places.get(i);
            }
            int[] n = new int[3];
            for (int k = 0; k < want; k++) {
                i++;
                if (!tokens.get(i).matches("[0-9]{1,2}")) {
                    return places.get(i);
                }
                n[k] = Integer.parseInt(tokens.get(i));
                boolean fits = want == 1 ? w.isSet(n[0])
                        : k == 0 ? w.known(n[0]) : k == 1 ? w.pair(n[0], n[1]) : n[2] >= 1 && n[2] <= 7;
                if (!fits) {
                    return places.get(i);
                }
            }
            if (want == 3) {
                w.roles.put(List.of(n[0], n[1]), n[2]);
            } else if (want == 1) {
                w.room.clear();
                w.room.addAll(set(n[0]));
            } else if (word.equals("season")) {
                w.kinds.clear();
                w.roles.clear();
                w.room.clear();
            } else {
                w.kinds.add(word);
            }
            clauses++;
            i++;
            if (tokens.get(i).isEmpty()) {
                return -(clauses + 1);
            }
            if (!tokens.get(i).equals(";") || clauses == 14) {
                return places.get(i);
            }
            i++;
        }
    }

    int fault() {
        return Math.max(NONE, read(told.copy()));
    }

    int season() {
        World w = told.copy();
        int n = read(w);
        if (n >= 0) {
            return NOT;
        }
        told = w;
        now = w.copy();
        past.clear();
        sights.clear();
        kept[0] = null;
        kept[1] = null;
        text.setLength(0);
        return -n - 1;
    }

    int person(int p, int what) {
        if (!now.known(p)) {
            return UNKNOWN;
        }
        return switch (what) {
            case 0 -> KINDS.indexOf(now.kinds.get(p));
            case 1 -> now.room.contains(p) ? 1 : 0;
            case 2 -> bits(now.must(now.room, p));
            case 3 -> now.room.contains(p) && now.two(now.room, p) ? 1 : 0;
            case 4 -> (int) now.roles.keySet().stream().filter(pair -> pair.get(0) == p).count();
            default -> OUTSIDE;
        };
    }

    int to(int p, int o) {
        return now.pair(p, o) ? now.roles.getOrDefault(List.of(p, o), NONE) : UNKNOWN;
    }

    int as(int p, int kind) {
        if (!now.known(p)) {
            return UNKNOWN;
        }
        if (kind < 0 || kind > 4) {
            return OUTSIDE;
        }
        int k = KINDS.indexOf(now.kinds.get(p));
        return IS.get(k).contains(kind) ? List.of(1, 2, 1, 7).get(k) : NOT;
    }

    private void remember() {
        past.push(now.copy());
        if (past.size() > 8) {
            past.removeLast();
        }
    }

    int comes(int p, int on) {
        if (!now.known(p)) {
            return UNKNOWN;
        }
        if (on < 0 || on > 1) {
            return OUTSIDE;
        }
        if (now.room.contains(p) == (on > 0)) {
            return NOT;
        }
        remember();
        if (on > 0) {
            now.room.add(p);
        } else {
            now.room.remove(p);
        }
        return bits(now.room);
    }

    int introduce(int p, int o, int role) {
        if (!now.pair(p, o)) {
            return UNKNOWN;
        }
        if (role < 1 || role > 7) {
            return OUTSIDE;
        }
        remember();
        Integer was = now.roles.put(List.of(p, o), role);
        return was == null ? NONE : was;
    }

    int contradict(int p, int o) {
        if (!now.pair(p, o)) {
            return UNKNOWN;
        }
        if (!now.roles.containsKey(List.of(p, o))) {
            return NOT;
        }
        remember();
        return now.roles.remove(List.of(p, o));
    }

    int evening() {
        if (now.evening == 999) {
            return FULL;
        }
        remember();
        return bits(now.evening());
    }

    int undo() {
        if (past.isEmpty()) {
            return NOT;
        }
        now = past.pop();
        return past.size();
    }

    int keep(int k) {
        if (k < 0 || k > 1) {
            return UNKNOWN;
        }
        kept[k] = now.copy();
        return now.evening;
    }

    int back(int k) {
        if (k < 0 || k > 1) {
            return UNKNOWN;
        }
        if (kept[k] == null) {
            return NOT;
        }
        now = kept[k].copy();
        past.clear();
        return now.evening;
    }

    int clash(int company) {
        return now.isSet(company) ? bits(now.clash(set(company))) : UNKNOWN;
    }

    /** All ways, one after another in the order of their rooms: the first of those with fewest rooms. */
    int rooms(int company, int person) {
        if (!now.isSet(company) || (person != NONE && !now.known(person))) {
            return UNKNOWN;
        }
        List<Integer> who = new ArrayList<>(set(company));
        int n = who.size();
        int ways = (int) Math.pow(Math.max(n, 1), n);
        int fewest = Integer.MAX_VALUE;
        int[] best = new int[n];
        for (int way = 0; way < ways; way++) {
            int[] room = new int[n];
            int rest = way;
            for (int i = n - 1; i >= 0; i--) {
                room[i] = rest % n;
                rest /= n;
            }
            int count = 0;
            boolean ordered = true;
            for (int i = 0; i < n; i++) {
                ordered &= room[i] <= count;
                count = Math.max(count, room[i] + 1);
            }
            if (ordered && count < fewest && peaceful(who, room, count)) {
                fewest = count;
                best = room;
            }
        }
        return person == NONE ? fewest : who.contains(person) ? best[who.indexOf(person)] : NONE;
    }

    private boolean peaceful(List<Integer> who, int[] room, int count) {
        for (int r = 0; r < count; r++) {
            Set<Integer> in = new TreeSet<>();
            for (int i = 0; i < room.length; i++) {
                if (room[i] == r) {
                    in.add(who.get(i));
                }
            }
            if (!now.clash(in).isEmpty()) {
                return false;
            }
        }
        return true;
    }

    int largest(int company) {
        if (!now.isSet(company)) {
            return UNKNOWN;
        }
        for (int size = 6; size > 0; size--) {
            for (int part = 0; part <= company; part++) {
                if ((part & company) == part && Integer.bitCount(part) == size && now.clash(set(part)).isEmpty()) {
                    return part;
                }
            }
        }
        return 0;
    }

    int smallest(int company) {
        if (!now.isSet(company)) {
            return UNKNOWN;
        }
        for (int size = 0; size <= 6; size++) {
            for (int part = 0; part <= company; part++) {
                if ((part & company) == part && Integer.bitCount(part) == size && !now.clash(set(part)).isEmpty()) {
                    return part;
                }
            }
        }
        return NONE;
    }

    int may(int p, int o) {
        if (!now.pair(p, o)) {
            return UNKNOWN;
        }
        Set<Integer> all = new TreeSet<>();
        for (int role = 1; role <= 7; role++) {
            World w = now.copy();
            w.room.addAll(List.of(p, o));
            w.roles.put(List.of(p, o), role);
            if (w.clash(w.room).isEmpty()) {
                all.add(role);
            }
        }
        return bits(all);
    }

    private World later(int n) {
        World w = now.copy();
        for (int i = 0; i < n; i++) {
            w.evening();
        }
        return w;
    }

    int learn(int p, int role, int n) {
        if (!now.known(p)) {
            return UNKNOWN;
        }
        if (role < 1 || role > 7 || n < 0 || n > 20) {
            return OUTSIDE;
        }
        Set<Integer> all = new TreeSet<>();
        later(n).roles.forEach((pair, r) -> {
            if (pair.get(0) == p && r == role) {
                all.add(pair.get(1));
            }
        });
        return bits(all);
    }

    int stays(int n) {
        return n < 0 || n > 20 ? OUTSIDE : bits(later(n).room);
    }

    int seen(int company, int p, int role) {
        if (!now.isSet(company) || !now.known(p) || !set(company).contains(p)) {
            return UNKNOWN;
        }
        if (role < 0 || role > 7) {
            return OUTSIDE;
        }
        if (sights.size() == 6) {
            return FULL;
        }
        sights.add(new Sight(set(company), p, role));
        return sights.size();
    }

    int forget() {
        int n = sights.size();
        sights.clear();
        return n;
    }

    int was(int p, int o) {
        if (!now.pair(p, o)) {
            return UNKNOWN;
        }
        Set<Integer> all = new TreeSet<>();
        for (int role = 0; role <= 7; role++) {
            World w = now.copy();
            w.roles.remove(List.of(p, o));
            if (role > 0) {
                w.roles.put(List.of(p, o), role);
            }
            if (sights.stream().allMatch(s -> s.role == 0
                    ? w.must(s.company, s.person).size() >= 2
                    : w.must(s.company, s.person).equals(Set.of(s.role)))) {
                all.add(role);
            }
        }
        return bits(all);
    }

    int chance(int company, int q, int part) {
        if (!now.isSet(company)) {
            return UNKNOWN;
        }
        if (q < 0 || q > 10 || part < 0 || part > 1) {
            return OUTSIDE;
        }
        BigInteger above = BigInteger.ZERO;
        for (int there = 0; there <= company; there++) {
            if ((there & company) == there && now.clash(set(there)).isEmpty()) {
                BigInteger odds = BigInteger.ONE;
                for (int p : set(company)) {
                    odds = odds.multiply(BigInteger.valueOf(set(there).contains(p) ? q : 10 - q));
                }
                above = above.add(odds);
            }
        }
        BigInteger below = BigInteger.TEN.pow(Integer.bitCount(company));
        return (part == 0 ? above : below).divide(above.gcd(below)).intValueExact();
    }

    int count(int what) {
        return switch (what) {
            case 0 -> now.kinds.size();
            case 1 -> now.evening;
            case 2 -> bits(now.room);
            case 3 -> bits(now.clash(now.room));
            case 4 -> now.roles.size();
            case 5 -> sights.size();
            case 6 -> past.size();
            case 7 -> text.length();
            default -> OUTSIDE;
        };
    }
}
