/** Each promise of the document with answers worked out by hand: ordinary inputs, edges and wrong inputs. */
public final class PromisesTest {
    private static final int BAD = ArgumentDesk.BAD;
    private static final int NONE = ArgumentDesk.NONE;
    private static final int MIN = Integer.MIN_VALUE;
    private static final int MAX = Integer.MAX_VALUE;
    private static final Due due = new Due();

    public static void main(String[] args) {
        newObject();
        put();
        attack();
        attackers();
        countAndSenses();
        is();
        set();
        some();
        every();
        round();
        weak();
        agree();
        effort();
        refusedChangesNothing();
        answersFollowChanges();
        objectsApart();
        due.end();
    }

    /** A desk with arguments 0 to size - 1 and attacks given as pairs of digits. */
    private static ArgumentDesk desk(int size, String... attacks) {
        ArgumentDesk desk = new ArgumentDesk();
        for (int a = 0; a < size; a++) {
            desk.put(a, true);
        }
        for (String pair : attacks) {
            desk.attack(pair.charAt(0) - '0', pair.charAt(1) - '0', true);
        }
        return desk;
    }

    private static void sets(String name, ArgumentDesk desk, int sense, int... want) {
        due.same(name + ": count(" + sense + ")", desk.count(sense), want.length);
        for (int k = 0; k < want.length; k++) {
            due.same(name + ": set(" + sense + ", " + k + ")", desk.set(sense, k), want[k]);
        }
        due.same(name + ": set(" + sense + ", end)", desk.set(sense, want.length), NONE);
    }

    private static void newObject() {
        ArgumentDesk desk = new ArgumentDesk();
        for (int a = -1; a <= 8; a++) {
            due.same("new: attackers(" + a + ")", desk.attackers(a), BAD);
            due.same("new: round(" + a + ")", desk.round(a), BAD);
        }
        for (int sense = 0; sense < 12; sense++) {
            sets("new", desk, sense, 0);
            due.same("new: some", desk.some(sense), 0);
            due.same("new: every", desk.every(sense), 0);
            due.same("new: is 0", desk.is(sense, 0), true);
            due.same("new: is 1", desk.is(sense, 1), false);
        }
        due.same("new: effort(0)", desk.effort(0), 0);
        due.same("new: effort(1)", desk.effort(1), BAD);
        due.same("new: weak(0)", desk.weak(0), 0);
        due.same("new: put(0, false)", desk.put(0, false), false);
    }

    private static void put() {
        ArgumentDesk desk = new ArgumentDesk();
        for (int a : new int[] {-1, 8, 9, 32, 39, -8, -32, MIN, MAX}) {
            due.same("put(" + a + ", true)", desk.put(a, true), false);
            due.same("put(" + a + ", false)", desk.put(a, false), false);
        }
        for (int a = 0; a < 8; a++) {
            due.same("put off first", desk.put(a, false), false);
            due.same("put on", desk.put(a, true), true);
            due.same("put on again", desk.put(a, true), false);
            due.same("no attacks yet", desk.attackers(a), 0);
        }
        due.same("all eight", desk.every(5), 255);
        desk.attack(0, 1, true);
        desk.attack(1, 2, true);
        desk.attack(1, 1, true);
        desk.attack(0, 2, true);
        due.same("put on with attacks", desk.put(1, true), false);
        due.same("attacks stay", desk.attackers(2), 3);
        due.same("put off", desk.put(1, false), true);
        due.same("put off again", desk.put(1, false), false);
        due.same("attackers of the gone", desk.attackers(1), BAD);
        due.same("attacks of the gone", desk.attackers(2), 1);
        due.same("put back", desk.put(1, true), true);
        due.same("back without attackers", desk.attackers(1), 0);
        due.same("back without attacks", desk.attackers(2), 1);
    }

    private static void attack() {
        ArgumentDesk desk = desk(3);
        due.same("attack off first", desk.attack(0, 1, false), false);
        due.same("attack on", desk.attack(0, 1, true), true);
        due.same("attack on again", desk.attack(0, 1, true), false);
        due.same("attack goes one way", desk.attackers(0), 0);
        due.same("attack seen", desk.attackers(1), 1);
        due.same("attack on itself", desk.attack(2, 2, true), true);
        due.same("attack on itself seen", desk.attackers(2), 4);
        due.same("attack off", desk.attack(0, 1, false), true);
        due.same("attack off again", desk.attack(0, 1, false), false);
        due.same("attack gone", desk.attackers(1), 0);
        for (int a : new int[] {-1, 3, 7, 8, 32, 33, -32, MIN, MAX}) {
            due.same("attack(" + a + ", 0)", desk.attack(a, 0, true), false);
            due.same("attack(0, " + a + ")", desk.attack(0, a, true), false);
            due.same("attack(" + a + ", " + a + ")", desk.attack(a, a, true), false);
            due.same("attack(" + a + ", 0, false)", desk.attack(a, 0, false), false);
            due.same("attack(0, " + a + ", false)", desk.attack(0, a, false), false);
        }
        due.same("0 untouched", desk.attackers(0), 0);
    }

    private static void attackers() {
        ArgumentDesk desk = desk(8, "07", "77", "37", "70");
        due.same("attackers(7)", desk.attackers(7), 1 + 8 + 128);
        due.same("attackers(0)", desk.attackers(0), 128);
        due.same("attackers(3)", desk.attackers(3), 0);
        for (int a : new int[] {-1, 8, 32, MIN, MAX}) {
            due.same("attackers(" + a + ")", desk.attackers(a), BAD);
        }
    }

    private static void countAndSenses() {
        ArgumentDesk pair = desk(2, "01", "10");
        sets("pair", pair, 0, 0, 1, 2);
        sets("pair", pair, 1, 0, 1, 2);
        sets("pair", pair, 2, 0, 1, 2);
        sets("pair", pair, 3, 0);
        for (int sense : new int[] {4, 5, 6, 7, 8, 11}) {
            sets("pair", pair, sense, 1, 2);
        }
        sets("pair", pair, 9, 0);
        sets("pair", pair, 10, 0);

        ArgumentDesk chain = desk(3, "01", "12");
        sets("chain", chain, 0, 0, 1, 2, 4, 5);
        sets("chain", chain, 1, 0, 1, 5);
        for (int sense : new int[] {2, 3, 4, 5, 6, 7, 9, 10, 11}) {
            sets("chain", chain, sense, 5);
        }
        sets("chain", chain, 8, 2, 5);

        ArgumentDesk ring = desk(3, "01", "12", "20");
        for (int sense : new int[] {1, 2, 3, 4, 6, 9, 10}) {
            sets("ring", ring, sense, 0);
        }
        sets("ring", ring, 5);
        for (int sense : new int[] {7, 8, 11}) {
            sets("ring", ring, sense, 1, 2, 4);
        }

        ArgumentDesk self = desk(1, "00");
        for (int sense : new int[] {0, 1, 2, 3, 4, 6, 7, 8, 9, 10, 11}) {
            sets("self", self, sense, 0);
        }
        sets("self", self, 5);

        // 0 and 1 attack each other and 2, and 2 attacks 3: 3 is defended by either, so it is in all of
        // sense 4, but it does not defend itself.
        ArgumentDesk floating = desk(4, "01", "10", "02", "12", "23");
        sets("floating", floating, 4, 9, 10);
        sets("floating", floating, 2, 0, 9, 10);
        sets("floating", floating, 9, 0);
        due.same("floating: every(4)", floating.every(4), 8);

        // {0} is greatest in sense 1 although {1, 3} has more members, but its reach is within that of {1, 3}.
        ArgumentDesk mixed = desk(5, "01", "10", "12", "23", "34", "42");
        sets("mixed", mixed, 4, 1, 10);
        sets("mixed", mixed, 6, 10);
        sets("mixed", mixed, 9, 0);
        sets("mixed", mixed, 10, 10);
        sets("mixed", mixed, 8, 5, 9, 10, 17, 18);
        sets("mixed", mixed, 11, 5, 9, 10, 17);

        // Sense 9 may have more than sense 3: 0 and 1 attack each other, 1 attacks itself.
        ArgumentDesk ideal = desk(2, "01", "10", "11");
        sets("ideal", ideal, 3, 0);
        sets("ideal", ideal, 9, 1);
        sets("ideal", ideal, 10, 1);

        // 0 attacks one of a ring of three: what is left of the ring is looked at anew, as a chain.
        ArgumentDesk broken = desk(4, "01", "12", "23", "31");
        sets("broken", broken, 11, 5);
        sets("broken", broken, 8, 2, 5, 9);
    }

    private static void sorted(String name, ArgumentDesk desk, int sense) {
        for (int k = 1; k < desk.count(sense); k++) {
            due.same(name + " ascends", desk.set(sense, k - 1) < desk.set(sense, k), true);
        }
    }

    private static void is() {
        ArgumentDesk desk = desk(3, "01", "12");
        due.same("is(0, 6)", desk.is(0, 6), false);
        due.same("is(0, 5)", desk.is(0, 5), true);
        due.same("is(1, 4)", desk.is(1, 4), false);
        due.same("is(2, 1)", desk.is(2, 1), false);
        due.same("is(8, 2)", desk.is(8, 2), true);
        due.same("is(8, 1)", desk.is(8, 1), false);
        for (int sense : new int[] {-1, 12, MIN, MAX}) {
            due.same("is(" + sense + ", 0)", desk.is(sense, 0), false);
        }
        for (int set : new int[] {8, 13, 128, 256, 261, -1, -251, MIN, MAX}) {
            due.same("is(0, " + set + ")", desk.is(0, set), false);
            due.same("is(11, " + set + ")", desk.is(11, set), false);
            due.same("is(-1, " + set + ")", desk.is(-1, set), false);
        }
        due.same("is(0, 255) with all there", desk(8).is(0, 255), true);
        due.same("is(0, 256) with all there", desk(8).is(0, 256), false);
    }

    private static void set() {
        ArgumentDesk desk = desk(8, "01", "10", "67", "76");
        sets("two pairs", desk, 5, 60 + 1 + 64, 60 + 2 + 64, 60 + 1 + 128, 60 + 2 + 128);
        sorted("two pairs", desk, 0);
        for (int k : new int[] {-1, 4, 256, MIN, MAX}) {
            due.same("set(5, " + k + ")", desk.set(5, k), NONE);
        }
        for (int sense : new int[] {-1, 12, MIN, MAX}) {
            due.same("set(" + sense + ", 0)", desk.set(sense, 0), BAD);
            due.same("set(" + sense + ", -1)", desk.set(sense, -1), BAD);
        }
        ArgumentDesk full = desk(8);
        due.same("all sets", full.count(0), 256);
        due.same("last set", full.set(0, 255), 255);
        due.same("after the last set", full.set(0, 256), NONE);
    }

    private static void some() {
        ArgumentDesk desk = desk(4, "01", "10", "22");
        due.same("some(0)", desk.some(0), 11);
        due.same("some(3)", desk.some(3), 8);
        due.same("some(4)", desk.some(4), 11);
        due.same("some of no set", desk.some(5), 0);
        for (int sense : new int[] {-1, 12, MIN, MAX}) {
            due.same("some(" + sense + ")", desk.some(sense), BAD);
            due.same("count(" + sense + ")", desk.count(sense), BAD);
        }
    }

    private static void every() {
        ArgumentDesk desk = desk(4, "01", "10", "22");
        due.same("every(0)", desk.every(0), 0);
        due.same("every(2)", desk.every(2), 8);
        due.same("every(4)", desk.every(4), 8);
        due.same("every of no set", desk.every(5), 15);
        for (int sense : new int[] {-1, 12, MIN, MAX}) {
            due.same("every(" + sense + ")", desk.every(sense), BAD);
        }
    }

    private static void round() {
        ArgumentDesk desk = desk(8, "01", "12", "23", "34", "45", "56");
        int[] want = {1, NONE, 2, NONE, 3, NONE, 4, 1};
        for (int a = 0; a < 8; a++) {
            due.same("round(" + a + ")", desk.round(a), want[a]);
        }
        for (int a : new int[] {-1, 8, 32, MIN, MAX}) {
            due.same("round(" + a + ")", desk.round(a), BAD);
        }
        due.same("round on itself", desk(1, "00").round(0), NONE);
        due.same("round of a pair", desk(2, "01", "10").round(0), NONE);
        due.same("round not there", desk(1).round(1), BAD);
    }

    private static void weak() {
        ArgumentDesk desk = desk(5, "01", "12", "23", "34");
        due.same("weak(0)", desk.weak(0), 0);
        due.same("weak(1)", desk.weak(1), 0);
        due.same("weak(2)", desk.weak(2), 2);
        due.same("weak of an undefended one", desk.weak(8 + 1), 8);
        due.same("weak of a held set", desk.weak(1 + 4 + 16), 0);
        due.same("weak of all", desk.weak(31), 2 + 4 + 8 + 16);
        ArgumentDesk pair = desk(2, "01", "10");
        due.same("weak for being attacked from within", pair.weak(3), 3);
        due.same("weak has members alone", pair.weak(1), 0);
        due.same("weak on itself", desk(1, "00").weak(1), 1);
        for (int set : new int[] {32, 33, 128, 256, 257, -1, MIN, MAX}) {
            due.same("weak(" + set + ")", desk.weak(set), BAD);
        }
    }

    private static void agree() {
        ArgumentDesk desk = desk(3, "01", "12");
        due.same("agree(2, 5)", desk.agree(2, 5), true);
        due.same("agree(5, 2)", desk.agree(5, 2), true);
        due.same("agree(0, 1)", desk.agree(0, 1), false);
        due.same("agree(5, 8), one within the other", desk.agree(5, 8), false);
        due.same("agree(8, 5), one within the other", desk.agree(8, 5), false);
        due.same("agree, none and the empty set", desk(1, "00").agree(5, 4), false);
        for (int sense = 0; sense < 12; sense++) {
            due.same("agree with itself", desk.agree(sense, sense), true);
        }
        for (int sense : new int[] {-1, 12, MIN, MAX}) {
            due.same("agree(" + sense + ", itself)", desk.agree(sense, sense), false);
            due.same("agree(" + sense + ", 0)", desk.agree(sense, 0), false);
            due.same("agree(0, " + sense + ")", desk.agree(0, sense), false);
        }
    }

    private static void effort() {
        ArgumentDesk desk = desk(4, "01", "10", "00", "23");
        due.same("effort of the empty set", desk.effort(0), NONE);
        due.same("effort(1)", desk.effort(1), 1 + 2);
        due.same("effort(3)", desk.effort(3), 3 + 2);
        due.same("effort(6)", desk.effort(6), 0);
        due.same("effort(5)", desk.effort(5), 1);
        due.same("effort(15)", desk.effort(15), 4);
        for (int set : new int[] {16, 17, 256, -1, MIN, MAX}) {
            due.same("effort(" + set + ")", desk.effort(set), BAD);
        }
        ArgumentDesk full = desk(8);
        for (int a = 0; a < 8; a++) {
            for (int b = 0; b < 8; b++) {
                full.attack(a, b, true);
            }
        }
        due.same("effort of all attacks", full.effort(255), 64);
        due.same("effort of one of all", full.effort(128), 1);
        ArgumentDesk emptied = desk(1);
        emptied.put(0, false);
        due.same("effort when none is there any more", emptied.effort(0), 0);
    }

    private static String everything(ArgumentDesk desk) {
        StringBuilder seen = new StringBuilder();
        for (int sense = 0; sense < 12; sense++) {
            seen.append(desk.count(sense)).append(',').append(desk.some(sense)).append(',');
            seen.append(desk.every(sense)).append(',').append(desk.set(sense, 0)).append(';');
        }
        for (int a = 0; a < 8; a++) {
            seen.append(desk.attackers(a)).append(',').append(desk.round(a)).append(';');
        }
        return seen.toString();
    }

    private static void refusedChangesNothing() {
        ArgumentDesk desk = desk(6, "01", "10", "12", "23", "34", "42", "55");
        String before = everything(desk);
        boolean refused = !desk.put(0, true) && !desk.put(7, false) && !desk.put(8, true) && !desk.put(-1, true)
            && !desk.put(32, false) && !desk.attack(0, 1, true) && !desk.attack(0, 2, false)
            && !desk.attack(0, 6, true) && !desk.attack(6, 0, true) && !desk.attack(8, 0, true)
            && !desk.attack(0, -1, true) && !desk.attack(32, 0, false);
        due.same("changes are refused", refused, true);
        due.same("state after refused changes", everything(desk).equals(before), true);
        boolean bad = desk.attackers(6) == BAD && desk.count(12) == BAD && desk.set(12, 0) == BAD
            && desk.set(0, 300) == NONE && desk.some(-1) == BAD && desk.every(12) == BAD && desk.round(6) == BAD
            && desk.round(0) == NONE && desk.weak(64) == BAD && desk.effort(64) == BAD && desk.effort(0) == NONE
            && !desk.is(12, 0) && !desk.is(0, 64) && !desk.agree(12, 12);
        due.same("questions are refused", bad, true);
        due.same("state after refused questions", everything(desk).equals(before), true);
    }

    private static void answersFollowChanges() {
        ArgumentDesk desk = desk(2);
        due.same("no attack yet", desk.set(4, 0), 3);
        desk.attack(0, 1, true);
        due.same("after the attack", desk.set(4, 0), 1);
        due.same("round after the attack", desk.round(1), NONE);
        due.same("weak after the attack", desk.weak(3), 2);
        due.same("effort after the attack", desk.effort(3), 1);
        desk.attack(0, 1, false);
        due.same("without the attack", desk.set(4, 0), 3);
        desk.put(2, true);
        due.same("with one more", desk.set(4, 0), 7);
        due.same("weak with one more", desk.weak(7), 0);
        desk.put(0, false);
        due.same("with one less", desk.set(4, 0), 6);
        due.same("a set that was there", desk.is(0, 7), false);
    }

    private static void objectsApart() {
        ArgumentDesk one = desk(2, "01");
        ArgumentDesk two = desk(3, "10");
        due.same("one", one.set(5, 0), 1);
        due.same("two", two.set(5, 0), 6);
        one.put(0, false);
        due.same("one after", one.set(5, 0), 2);
        due.same("two after", two.set(5, 0), 6);
    }
}
