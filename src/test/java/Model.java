import java.util.ArrayList;
import java.util.List;
import java.util.TreeSet;

/** The document's words, written down once more as plainly as can be, to compare the class with. */
final class Model {
    final boolean[] there = new boolean[8];
    final boolean[][] attacks = new boolean[8][8];
    private final List<TreeSet<Integer>> known = new ArrayList<>();

    boolean put(int a, boolean on) {
        if (a < 0 || a > 7 || there[a] == on) {
            return false;
        }
        there[a] = on;
        for (int b = 0; b < 8; b++) {
            attacks[a][b] = false;
            attacks[b][a] = false;
        }
        known.clear();
        return true;
    }

    boolean attack(int a, int b, boolean on) {
        if (!isThere(a) || !isThere(b) || attacks[a][b] == on) {
            return false;
        }
        attacks[a][b] = on;
        known.clear();
        return true;
    }

    int attackers(int a) {
        if (!isThere(a)) {
            return -1;
        }
        int all = 0;
        for (int b = 0; b < 8; b++) {
            all |= attacks[b][a] ? 1 << b : 0;
        }
        return all;
    }

    int count(int sense) {
        return isSense(sense) ? sets(sense).size() : -1;
    }

    boolean is(int sense, int set) {
        return isSense(sense) && sets(sense).contains(set);
    }

    int set(int sense, int k) {
        if (!isSense(sense)) {
            return -1;
        }
        List<Integer> ascending = new ArrayList<>(sets(sense));
        return k >= 0 && k < ascending.size() ? ascending.get(k) : -2;
    }

    int some(int sense) {
        return isSense(sense) ? sets(sense).stream().reduce(0, (x, y) -> x | y) : -1;
    }

    int every(int sense) {
        return isSense(sense) ? sets(sense).stream().reduce(all(), (x, y) -> x & y) : -1;
    }

    int round(int a) {
        if (!isThere(a)) {
            return -1;
        }
        int in = 0;
        for (int number = 1; number <= 100; number++) {
            int next = in;
            for (int b = 0; b < 8; b++) {
                next |= there[b] && defends(in, b) ? 1 << b : 0;
            }
            in = next;
            if (has(in, a)) {
                return number;
            }
        }
        return -2;
    }

    int weak(int set) {
        if (!isSet(set)) {
            return -1;
        }
        int members = 0;
        for (int a = 0; a < 8; a++) {
            if (has(set, a) && (!defends(set, a) || hits(set, a))) {
                members |= 1 << a;
            }
        }
        return members;
    }

    boolean agree(int sense, int other) {
        return isSense(sense) && isSense(other) && sets(sense).equals(sets(other));
    }

    int effort(int set) {
        if (!isSet(set)) {
            return -1;
        }
        int changes = 0;
        for (int a = 0; a < 8; a++) {
            if (there[a] && !has(set, a) && set == 0) {
                return -2;
            }
            if (there[a] && !has(set, a) && !hits(set, a)) {
                changes++;
            }
            for (int b = 0; b < 8; b++) {
                if (has(set, a) && has(set, b) && attacks[a][b]) {
                    changes++;
                }
            }
        }
        return changes;
    }

    TreeSet<Integer> sets(int sense) {
        if (known.isEmpty()) {
            for (int s = 0; s < 12; s++) {
                known.add(make(s));
            }
        }
        return known.get(sense);
    }

    private TreeSet<Integer> make(int sense) {
        TreeSet<Integer> made = new TreeSet<>();
        switch (sense) {
            case 0:
                for (int s = 0; s < 256; s++) {
                    if (isSet(s) && free(s)) {
                        made.add(s);
                    }
                }
                return made;
            case 1:
                for (int s : known.get(0)) {
                    if (defendsAll(s)) {
                        made.add(s);
                    }
                }
                return made;
            case 2:
                for (int s : known.get(1)) {
                    if (hasAllItDefends(s)) {
                        made.add(s);
                    }
                }
                return made;
            case 3:
                for (int s : known.get(2)) {
                    if (known.get(2).stream().allMatch(t -> subset(s, t))) {
                        made.add(s);
                    }
                }
                return made;
            case 4:
                return greatest(known.get(1));
            case 5:
                for (int s : known.get(0)) {
                    if (reach(s) == all()) {
                        made.add(s);
                    }
                }
                return made;
            case 6:
                return widest(known.get(2));
            case 7:
                return widest(known.get(0));
            case 8:
                return greatest(known.get(0));
            case 9:
                return greatest(inside(known.get(1), known.get(4)));
            case 10:
                return greatest(inside(known.get(1), known.get(6)));
            default:
                for (int s : known.get(0)) {
                    if (so(s, all())) {
                        made.add(s);
                    }
                }
                return made;
        }
    }

    private boolean so(int set, int among) {
        if (among == 0) {
            return true;
        }
        boolean[][] path = paths(among);
        boolean joined = true;
        for (int a = 0; a < 8; a++) {
            for (int b = 0; b < 8; b++) {
                if (a != b && has(among, a) && has(among, b) && !path[a][b]) {
                    joined = false;
                }
            }
        }
        if (joined) {
            TreeSet<Integer> within = new TreeSet<>();
            for (int s = 0; s < 256; s++) {
                if (subset(s, among) && free(s)) {
                    within.add(s);
                }
            }
            return greatest(within).contains(set & among);
        }
        for (int a = 0; a < 8; a++) {
            if (has(among, a)) {
                int component = 1 << a;
                for (int b = 0; b < 8; b++) {
                    component |= path[a][b] && path[b][a] ? 1 << b : 0;
                }
                int part = 0;
                for (int b = 0; b < 8; b++) {
                    part |= has(component, b) && !hits(set & among & ~component, b) ? 1 << b : 0;
                }
                if (!so(set, part)) {
                    return false;
                }
            }
        }
        return true;
    }

    private boolean[][] paths(int among) {
        boolean[][] path = new boolean[8][8];
        for (int a = 0; a < 8; a++) {
            for (int b = 0; b < 8; b++) {
                path[a][b] = has(among, a) && has(among, b) && attacks[a][b];
            }
        }
        for (int by = 0; by < 8; by++) {
            for (int a = 0; a < 8; a++) {
                for (int b = 0; b < 8; b++) {
                    path[a][b] |= path[a][by] && path[by][b];
                }
            }
        }
        return path;
    }

    private static TreeSet<Integer> greatest(TreeSet<Integer> sets) {
        TreeSet<Integer> made = new TreeSet<>();
        for (int s : sets) {
            if (sets.stream().noneMatch(t -> t != s && subset(s, t))) {
                made.add(s);
            }
        }
        return made;
    }

    private TreeSet<Integer> widest(TreeSet<Integer> sets) {
        TreeSet<Integer> reaches = new TreeSet<>();
        for (int s : sets) {
            reaches.add(reach(s));
        }
        TreeSet<Integer> greatestReaches = greatest(reaches);
        TreeSet<Integer> made = new TreeSet<>();
        for (int s : sets) {
            if (greatestReaches.contains(reach(s))) {
                made.add(s);
            }
        }
        return made;
    }

    private static TreeSet<Integer> inside(TreeSet<Integer> sets, TreeSet<Integer> others) {
        TreeSet<Integer> made = new TreeSet<>();
        for (int s : sets) {
            if (others.stream().allMatch(t -> subset(s, t))) {
                made.add(s);
            }
        }
        return made;
    }

    int all() {
        int members = 0;
        for (int a = 0; a < 8; a++) {
            members |= there[a] ? 1 << a : 0;
        }
        return members;
    }

    private boolean free(int set) {
        for (int a = 0; a < 8; a++) {
            if (has(set, a) && hits(set, a)) {
                return false;
            }
        }
        return true;
    }

    private boolean defendsAll(int set) {
        for (int a = 0; a < 8; a++) {
            if (has(set, a) && !defends(set, a)) {
                return false;
            }
        }
        return true;
    }

    private boolean hasAllItDefends(int set) {
        for (int a = 0; a < 8; a++) {
            if (there[a] && defends(set, a) && !has(set, a)) {
                return false;
            }
        }
        return true;
    }

    private int reach(int set) {
        int members = set;
        for (int a = 0; a < 8; a++) {
            members |= hits(set, a) ? 1 << a : 0;
        }
        return members;
    }

    private boolean hits(int set, int a) {
        for (int b = 0; b < 8; b++) {
            if (has(set, b) && attacks[b][a]) {
                return true;
            }
        }
        return false;
    }

    private boolean defends(int set, int a) {
        for (int b = 0; b < 8; b++) {
            if (attacks[b][a] && !hits(set, b)) {
                return false;
            }
        }
        return true;
    }

    private boolean isThere(int a) {
        return a >= 0 && a <= 7 && there[a];
    }

    private boolean isSet(int set) {
        return set >= 0 && set <= 255 && subset(set, all());
    }

    private static boolean isSense(int sense) {
        return sense >= 0 && sense <= 11;
    }

    private static boolean subset(int set, int other) {
        return (set & other) == set;
    }

    private static boolean has(int set, int a) {
        return (set & 1 << a) != 0;
    }
}
