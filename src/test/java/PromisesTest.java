/** Each promise of the document with answers worked out by hand, on ordinary inputs. */
public final class PromisesTest {
    private static final int BAD = ArgumentDesk.BAD;
    private static final int NONE = ArgumentDesk.NONE;
    private static final Due due = new Due();

    public static void main(String[] args) {
        put();
        attack();
        attackers();
        countAndSenses();
        is();
        set();
        some();
        every();
        round();
        weak();
        agree();
        effort();
        answersFollowChanges();
        objectsApart();
        readmeExample();
        due.end();
    }

    private static void put() {
        ArgumentDesk desk = Desks.desk(3, "01", "12", "11", "02");
        due.same("put off", desk.put(1, false), true);
        due.same("attackers of the gone", desk.attackers(1), BAD);
        due.same("attacks of others stay", desk.attackers(2), 1);
        due.same("put back", desk.put(1, true), true);
        due.same("back without attackers", desk.attackers(1), 0);
        due.same("back without attacks", desk.attackers(2), 1);
    }

    private static void attack() {
        ArgumentDesk desk = Desks.desk(3);
        due.same("attack on", desk.attack(0, 1, true), true);
        due.same("attack goes one way", desk.attackers(0), 0);
        due.same("attack seen", desk.attackers(1), 1);
        due.same("attack on itself", desk.attack(2, 2, true), true);
        due.same("attack on itself seen", desk.attackers(2), 4);
        due.same("attack off", desk.attack(0, 1, false), true);
        due.same("attack gone", desk.attackers(1), 0);
    }

    private static void attackers() {
        ArgumentDesk desk = Desks.desk(8, "07", "77", "37", "70");
        due.same("attackers(7)", desk.attackers(7), 1 + 8 + 128);
        due.same("attackers(0)", desk.attackers(0), 128);
        due.same("attackers(3)", desk.attackers(3), 0);
    }

    private static void countAndSenses() {
        ArgumentDesk pair = Desks.desk(2, "01", "10");
        due.sets("pair", pair, 0, 0, 1, 2);
        due.sets("pair", pair, 1, 0, 1, 2);
        due.sets("pair", pair, 2, 0, 1, 2);
        due.sets("pair", pair, 3, 0);
        for (int sense : new int[] {4, 5, 6, 7, 8, 11}) {
            due.sets("pair", pair, sense, 1, 2);
        }
        due.sets("pair", pair, 9, 0);
        due.sets("pair", pair, 10, 0);

        ArgumentDesk chain = Desks.desk(3, "01", "12");
        due.sets("chain", chain, 0, 0, 1, 2, 4, 5);
        due.sets("chain", chain, 1, 0, 1, 5);
        for (int sense : new int[] {2, 3, 4, 5, 6, 7, 9, 10, 11}) {
            due.sets("chain", chain, sense, 5);
        }
        due.sets("chain", chain, 8, 2, 5);

        ArgumentDesk ring = Desks.desk(3, "01", "12", "20");
        for (int sense : new int[] {1, 2, 3, 4, 6, 9, 10}) {
            due.sets("ring", ring, sense, 0);
        }
        due.sets("ring", ring, 5);
        for (int sense : new int[] {7, 8, 11}) {
            due.sets("ring", ring, sense, 1, 2, 4);
        }

        ArgumentDesk self = Desks.desk(1, "00");
        for (int sense : new int[] {0, 1, 2, 3, 4, 6, 7, 8, 9, 10, 11}) {
            due.sets("self", self, sense, 0);
        }
        due.sets("self", self, 5);

        // 0 and 1 attack each other and 2, and 2 attacks 3: 3 is defended by either, so it is in all of
        // sense 4, but it does not defend itself.
        ArgumentDesk floating = Desks.desk(4, "01", "10", "02", "12", "23");
        due.sets("floating", floating, 4, 9, 10);
        due.sets("floating", floating, 2, 0, 9, 10);
        due.sets("floating", floating, 9, 0);
        due.same("floating: every(4)", floating.every(4), 8);

        // {0} is greatest in sense 1 although {1, 3} has more members, but its reach is within that of {1, 3}.
        ArgumentDesk mixed = Desks.desk(5, "01", "10", "12", "23", "34", "42");
        due.sets("mixed", mixed, 4, 1, 10);
        due.sets("mixed", mixed, 6, 10);
        due.sets("mixed", mixed, 9, 0);
        due.sets("mixed", mixed, 10, 10);
        due.sets("mixed", mixed, 8, 5, 9, 10, 17, 18);
        due.sets("mixed", mixed, 11, 5, 9, 10, 17);

        // Sense 9 may have more than sense 3: 0 and 1 attack each other, 1 attacks itself.
        ArgumentDesk ideal = Desks.desk(2, "01", "10", "11");
        due.sets("ideal", ideal, 3, 0);
        due.sets("ideal", ideal, 9, 1);
        due.sets("ideal", ideal, 10, 1);

        // 0 attacks one of a ring of three: what is left of the ring is looked at anew, as a chain.
        ArgumentDesk broken = Desks.desk(4, "01", "12", "23", "31");
        due.sets("broken", broken, 11, 5);
        due.sets("broken", broken, 8, 2, 5, 9);
    }

    private static void sorted(String name, ArgumentDesk desk, int sense) {
        for (int k = 1; k < desk.count(sense); k++) {
            due.same(name + " ascends", desk.set(sense, k - 1) < desk.set(sense, k), true);
        }
    }

    private static void is() {
        ArgumentDesk desk = Desks.desk(3, "01", "12");
        due.same("is(0, 6)", desk.is(0, 6), false);
        due.same("is(0, 5)", desk.is(0, 5), true);
        due.same("is(1, 4)", desk.is(1, 4), false);
        due.same("is(2, 1)", desk.is(2, 1), false);
        due.same("is(8, 2)", desk.is(8, 2), true);
        due.same("is(8, 1)", desk.is(8, 1), false);
    }

    private static void set() {
        ArgumentDesk desk = Desks.desk(8, "01", "10", "67", "76");
        due.sets("two pairs", desk, 5, 60 + 1 + 64, 60 + 2 + 64, 60 + 1 + 128, 60 + 2 + 128);
        sorted("two pairs", desk, 0);
    }

    private static void some() {
        ArgumentDesk desk = Desks.desk(4, "01", "10", "22");
        due.same("some(0)", desk.some(0), 11);
        due.same("some(3)", desk.some(3), 8);
        due.same("some(4)", desk.some(4), 11);
    }

    private static void every() {
        ArgumentDesk desk = Desks.desk(4, "01", "10", "22");
        due.same("every(0)", desk.every(0), 0);
        due.same("every(2)", desk.every(2), 8);
        due.same("every(4)", desk.every(4), 8);
    }

    private static void round() {
        ArgumentDesk desk = Desks.desk(8, "01", "12", "23", "34", "45", "56");
        int[] want = {1, NONE, 2, NONE, 3, NONE, 4, 1};
        for (int a = 0; a < 8; a++) {
            due.same("round(" + a + ")", desk.round(a), want[a]);
        }
    }

    private static void weak() {
        ArgumentDesk desk = Desks.desk(5, "01", "12", "23", "34");
        due.same("weak(1)", desk.weak(1), 0);
        due.same("weak(2)", desk.weak(2), 2);
        due.same("weak of an undefended one", desk.weak(8 + 1), 8);
        due.same("weak of a held set", desk.weak(1 + 4 + 16), 0);
        due.same("weak of all", desk.weak(31), 2 + 4 + 8 + 16);
    }

    private static void agree() {
        ArgumentDesk desk = Desks.desk(3, "01", "12");
        due.same("agree(2, 5)", desk.agree(2, 5), true);
        due.same("agree(5, 2)", desk.agree(5, 2), true);
        due.same("agree(0, 1)", desk.agree(0, 1), false);
        due.same("agree(5, 8), one within the other", desk.agree(5, 8), false);
        due.same("agree(8, 5), one within the other", desk.agree(8, 5), false);
    }

    private static void effort() {
        ArgumentDesk desk = Desks.desk(4, "01", "10", "00", "23");
        due.same("effort(1)", desk.effort(1), 1 + 2);
        due.same("effort(3)", desk.effort(3), 3 + 2);
        due.same("effort(6)", desk.effort(6), 0);
        due.same("effort(5)", desk.effort(5), 1);
        due.same("effort(15)", desk.effort(15), 4);
    }

    private static void answersFollowChanges() {
        ArgumentDesk desk = Desks.desk(2);
        due.same("no attack yet", desk.set(4, 0), 3);
        desk.attack(0, 1, true);
        due.same("after the attack", desk.set(4, 0), 1);
        due.same("round after the attack", desk.round(1), NONE);
        due.same("weak after the attack", desk.weak(3), 2);
        due.same("effort after the attack", desk.effort(3), 1);
        desk.attack(0, 1, false);
        due.same("without the attack", desk.set(4, 0), 3);
        desk.put(2, true);
        due.same("with one more", desk.set(4, 0), 7);
        due.same("weak with one more", desk.weak(7), 0);
        desk.put(0, false);
        due.same("with one less", desk.set(4, 0), 6);
        due.same("a set that was there", desk.is(0, 7), false);
    }

    private static void objectsApart() {
        ArgumentDesk one = Desks.desk(2, "01");
        ArgumentDesk two = Desks.desk(3, "10");
        due.same("one", one.set(5, 0), 1);
        due.same("two", two.set(5, 0), 6);
        one.put(0, false);
        due.same("one after", one.set(5, 0), 2);
        due.same("two after", two.set(5, 0), 6);
    }

    /** The calls of README.md in their order, so that it does not tell an answer that the class does not give. */
    private static void readmeExample() {
        ArgumentDesk desk = new ArgumentDesk();
        due.same("README: put(0, true)", desk.put(0, true), true);
        desk.put(1, true);
        desk.put(2, true);
        due.same("README: attack(0, 1, true)", desk.attack(0, 1, true), true);
        desk.attack(1, 2, true);
        due.same("README: attack(1, 2, true) again", desk.attack(1, 2, true), false);
        due.same("README: attackers(2)", desk.attackers(2), 2);
        due.same("README: count(8)", desk.count(8), 2);
        due.same("README: set(8, 0)", desk.set(8, 0), 2);
        due.same("README: set(8, 1)", desk.set(8, 1), 5);
        due.same("README: set(8, 2)", desk.set(8, 2), NONE);
        due.same("README: is(5, 5)", desk.is(5, 5), true);
        due.same("README: some(8)", desk.some(8), 7);
        due.same("README: every(8)", desk.every(8), 0);
        due.same("README: round(2)", desk.round(2), 2);
        due.same("README: weak(6)", desk.weak(6), 6);
        due.same("README: agree(3, 5)", desk.agree(3, 5), true);
        due.same("README: effort(4)", desk.effort(4), 2);
        due.same("README: count(12)", desk.count(12), BAD);
    }
}
