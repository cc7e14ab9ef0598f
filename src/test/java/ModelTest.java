/** Compares the class with the model: all graphs of three arguments, drawn ones of up to eight, and mixed runs. */
public final class ModelTest {
    private static final int CALLS = 512;
    private static final Due due = new Due();
    /** The draws are the same in every run of the test. */
    private static long seed = 20261115L;

    public static void main(String[] args) {
        allSmallGraphs();
        drawnGraphs();
        mixedRuns();
        due.end();
    }

    private static int draw(int bound) {
        seed = seed * 6364136223846793005L + 1442695040888963407L;
        return (int) ((seed >>> 33) % bound);
    }

    /** Efforts are compared with the distance to the nearest graph in which the set is one of sense 5. */
    private static void allSmallGraphs() {
        int[] places = {1, 4, 6};
        for (int size = 0; size <= 3; size++) {
            int graphs = 1 << size * size;
            Model[] models = new Model[graphs];
            for (int graph = 0; graph < graphs; graph++) {
                models[graph] = smallModel(places, size, graph);
                compareSenses(models[graph], "graph " + graph + " of " + size);
            }
            for (int graph = 0; graph < graphs; graph++) {
                ArgumentDesk desk = deskOf(models[graph]);
                for (int set = 0; set < 256; set++) {
                    if ((set & models[graph].all()) == set) {
                        int nearest = -2;
                        for (int other = 0; other < graphs; other++) {
                            int distance = Integer.bitCount(graph ^ other);
                            if (models[other].is(5, set) && (nearest < 0 || distance < nearest)) {
                                nearest = distance;
                            }
                        }
                        due.same("graph " + graph + " of " + size + ": effort(" + set + ")", desk.effort(set), nearest);
                    }
                }
            }
        }
    }

    private static Model smallModel(int[] places, int size, int graph) {
        Model model = new Model();
        for (int i = 0; i < size; i++) {
            model.put(places[i], true);
        }
        for (int i = 0; i < size * size; i++) {
            if ((graph >> i & 1) == 1) {
                model.attack(places[i / size], places[i % size], true);
            }
        }
        return model;
    }

    private static void drawnGraphs() {
        for (int n = 0; n < 600; n++) {
            Model model = new Model();
            int absent = draw(4) == 0 ? draw(4) : 0;
            for (int a = 0; a < 8; a++) {
                if (draw(8) >= absent) {
                    model.put(a, true);
                }
            }
            int density = 4 + draw(30);
            int selfDensity = draw(25);
            for (int a = 0; a < 8; a++) {
                for (int b = 0; b < 8; b++) {
                    if (draw(100) < (a == b ? selfDensity : density)) {
                        model.attack(a, b, true);
                    }
                }
            }
            compareSenses(model, "drawn graph " + n);
        }
    }

    private static ArgumentDesk deskOf(Model model) {
        ArgumentDesk desk = new ArgumentDesk();
        for (int a = 0; a < 8; a++) {
            if (model.there[a]) {
                desk.put(a, true);
            }
        }
        for (int a = 0; a < 8; a++) {
            for (int b = 0; b < 8; b++) {
                if (model.attacks[a][b]) {
                    desk.attack(a, b, true);
                }
            }
        }
        return desk;
    }

    /** New objects again and again, since one may be asked 512 times only. */
    private static void compareSenses(Model model, String name) {
        ArgumentDesk desk = deskOf(model);
        for (int sense = 0; sense < 12; sense++) {
            String at = name + ": sense " + sense;
            due.same(at + " count", desk.count(sense), model.count(sense));
            due.same(at + " some", desk.some(sense), model.some(sense));
            due.same(at + " every", desk.every(sense), model.every(sense));
            for (int other = 0; other < 12; other++) {
                due.same(at + " agree " + other, desk.agree(sense, other), model.agree(sense, other));
            }
        }
        for (int a = 0; a < 8; a++) {
            due.same(name + ": attackers " + a, desk.attackers(a), model.attackers(a));
            due.same(name + ": round " + a, desk.round(a), model.round(a));
        }
        ArgumentDesk weakDesk = deskOf(model);
        ArgumentDesk effortDesk = deskOf(model);
        for (int set = 0; set < 256; set++) {
            due.same(name + ": weak " + set, weakDesk.weak(set), model.weak(set));
            due.same(name + ": effort " + set, effortDesk.effort(set), model.effort(set));
        }
        for (int sense = 0; sense < 12; sense++) {
            ArgumentDesk setDesk = deskOf(model);
            for (int k = -1; k <= model.count(sense); k++) {
                due.same(name + ": set " + sense + " " + k, setDesk.set(sense, k), model.set(sense, k));
            }
            ArgumentDesk isDesk = deskOf(model);
            for (int set = 0; set < 256; set++) {
                due.same(name + ": is " + sense + " " + set, isDesk.is(sense, set), model.is(sense, set));
            }
        }
    }

    /** Changes and questions mixed, with wrong inputs among them. */
    private static void mixedRuns() {
        for (int n = 0; n < 200; n++) {
            ArgumentDesk desk = new ArgumentDesk();
            Model model = new Model();
            int puts = 10 + draw(50);
            for (int call = 0; call < CALLS; call++) {
                mixedCall(desk, model, "run " + n + " call " + call, puts);
            }
        }
    }

    private static int argument() {
        int[] odd = {-1, 8, 9, 31, 32, 33, 40, -32, -8, Integer.MIN_VALUE, Integer.MAX_VALUE};
        return draw(20) == 0 ? odd[draw(odd.length)] : draw(8);
    }

    private static int sense() {
        int[] odd = {-1, 12, 13, -12, 255, Integer.MIN_VALUE, Integer.MAX_VALUE};
        return draw(20) == 0 ? odd[draw(odd.length)] : draw(12);
    }

    private static int set(Model model) {
        int[] odd = {-1, 256, 257, 511, -256, Integer.MIN_VALUE, Integer.MAX_VALUE};
        int choice = draw(20);
        if (choice == 0) {
            return odd[draw(odd.length)];
        }
        return choice < 4 ? draw(256) : draw(256) & model.all();
    }

    private static void mixedCall(ArgumentDesk desk, Model model, String at, int puts) {
        int choice = draw(100);
        if (choice < 55) {
            boolean on = draw(100) < 55;
            if (draw(100) < puts) {
                int a = argument();
                boolean there = on || draw(3) > 0;
                due.same(at + ": put(" + a + ", " + there + ")", desk.put(a, there), model.put(a, there));
            } else {
                int a = argument();
                int b = argument();
                due.same(at + ": attack(" + a + ", " + b + ", " + on + ")", desk.attack(a, b, on), model.attack(a, b, on));
            }
            return;
        }
        int a = argument();
        int sense = sense();
        int other = sense();
        int set = set(model);
        int k = draw(10) == 0 ? -1 - draw(3) : draw(6);
        switch (choice % 10) {
            case 0 -> due.same(at + ": attackers(" + a + ")", desk.attackers(a), model.attackers(a));
            case 1 -> due.same(at + ": count(" + sense + ")", desk.count(sense), model.count(sense));
            case 2 -> due.same(at + ": is(" + sense + ", " + set + ")", desk.is(sense, set), model.is(sense, set));
            case 3 -> due.same(at + ": set(" + sense + ", " + k + ")", desk.set(sense, k), model.set(sense, k));
            case 4 -> due.same(at + ": some(" + sense + ")", desk.some(sense), model.some(sense));
            case 5 -> due.same(at + ": every(" + sense + ")", desk.every(sense), model.every(sense));
            case 6 -> due.same(at + ": round(" + a + ")", desk.round(a), model.round(a));
            case 7 -> due.same(at + ": weak(" + set + ")", desk.weak(set), model.weak(set));
            case 8 -> due.same(at + ": agree(" + sense + ", " + other + ")", desk.agree(sense, other), model.agree(sense, other));
            default -> due.same(at + ": effort(" + set + ")", desk.effort(set), model.effort(set));
        }
    }
}
