import java.util.LinkedHashMap;
import java.util.Map;
import java.util.function.Predicate;

/** Each sentence of the promises 1 to 14 that names a boundary case, with a test of its own. */
public final class PromisesBoundaryTest {
    private static final int BAD = ArgumentDesk.BAD;
    private static final int NONE = ArgumentDesk.NONE;
    private static final int MIN = Integer.MIN_VALUE;
    private static final int MAX = Integer.MAX_VALUE;
    private static final Due due = new Due();

    public static void main(String[] args) {
        newObject();
        putWithoutAttacks();
        putAndAttacksGo();
        putOutside();
        putSoAlready();
        putElse();
        attackOnAndOff();
        attackNotThere();
        attackSoAlready();
        attackElse();
        attackers();
        count();
        isSense();
        isSet();
        setNumbers();
        setSense();
        setNone();
        some();
        every();
        roundNumbers();
        roundBad();
        roundNone();
        weakMembers();
        weakBad();
        agree();
        effortSmallest();
        effortNone();
        effortBad();
        refusedChangesNothing();
        lastCall();
        neverThrows();
        due.end();
    }

    private static void newObject() {
        due.sentence("1: No arguments.");
        ArgumentDesk desk = new ArgumentDesk();
        for (int a = 0; a < 8; a++) {
            due.same("attackers(" + a + ")", desk.attackers(a), BAD);
            due.same("round(" + a + ")", desk.round(a), BAD);
            due.same("put(" + a + ", false)", desk.put(a, false), false);
            due.same("attack(" + a + ", " + a + ", true)", desk.attack(a, a, true), false);
            due.same("weak(" + (1 << a) + ")", desk.weak(1 << a), BAD);
            due.same("effort(" + (1 << a) + ")", desk.effort(1 << a), BAD);
        }
        for (int sense = 0; sense < 12; sense++) {
            due.sets("none there", desk, sense, 0);
            due.same("is(" + sense + ", 0)", desk.is(sense, 0), true);
            due.same("is(" + sense + ", 1)", desk.is(sense, 1), false);
            due.same("some(" + sense + ")", desk.some(sense), 0);
            due.same("every(" + sense + ")", desk.every(sense), 0);
            due.same("agree(0, " + sense + ")", desk.agree(0, sense), true);
        }
        due.same("weak(0)", desk.weak(0), 0);
        due.same("effort(0)", desk.effort(0), 0);
        // What another object was told is not told to a new one.
        Desks.deskOfAllAttacks();
        due.same("beside a full one: some(0)", new ArgumentDesk().some(0), 0);
    }

    private static void putWithoutAttacks() {
        due.sentence("2: An argument is there, without attacks");
        for (int a = 0; a < 8; a++) {
            ArgumentDesk desk = Desks.deskOfAllAttacks();
            desk.put(a, false);
            desk.put(a, true);
            due.same("back: attackers(" + a + ")", desk.attackers(a), 0);
            for (int b = 0; b < 8; b++) {
                due.same("back: attack(" + a + ", " + b + ", false)", desk.attack(a, b, false), false);
            }
        }
        ArgumentDesk first = Desks.deskWith(7);
        due.same("the first: attackers(7)", first.attackers(7), 0);
    }

    private static void putAndAttacksGo() {
        due.sentence("2: or is not there any more, and its attacks go");
        for (int a = 0; a < 8; a++) {
            ArgumentDesk desk = Desks.deskOfAllAttacks();
            desk.put(a, false);
            due.same("gone: attackers(" + a + ")", desk.attackers(a), BAD);
            due.same("gone: is(0, " + (1 << a) + ")", desk.is(0, 1 << a), false);
            for (int b = 0; b < 8; b++) {
                int left = b == a ? BAD : 255 - (1 << a);
                due.same(a + " gone: attackers(" + b + ")", desk.attackers(b), left);
            }
        }
        ArgumentDesk last = Desks.desk(1, "00");
        due.same("the last goes", last.put(0, false), true);
        due.sets("the last gone", last, 5, 0);
    }

    private static void putOutside() {
        due.sentence("2: a outside 0..7: refused, answers false");
        for (int a : Desks.outsideArguments()) {
            for (int size : new int[] {0, 3, 8}) {
                ArgumentDesk desk = Desks.desk(size);
                due.same(size + " there: put(" + a + ", true)", desk.put(a, true), false);
                due.same(size + " there: put(" + a + ", false)", desk.put(a, false), false);
                due.same(size + " there, then: some(0)", desk.some(0), (1 << size) - 1);
            }
        }
    }

    private static void putSoAlready() {
        due.sentence("2: or it is so already: refused, answers false");
        for (int a = 0; a < 8; a++) {
            ArgumentDesk desk = new ArgumentDesk();
            due.same("never there: put(" + a + ", false)", desk.put(a, false), false);
            desk.put(a, true);
            desk.attack(a, a, true);
            due.same("there: put(" + a + ", true)", desk.put(a, true), false);
            due.same("there as before: attackers(" + a + ")", desk.attackers(a), 1 << a);
            desk.put(a, false);
            due.same("gone: put(" + a + ", false)", desk.put(a, false), false);
        }
    }

    private static void putElse() {
        due.sentence("2: Else true.");
        ArgumentDesk desk = new ArgumentDesk();
        for (int a = 0; a < 8; a++) {
            due.same("put(" + a + ", true)", desk.put(a, true), true);
        }
        for (int a = 7; a >= 0; a--) {
            due.same("put(" + a + ", false)", desk.put(a, false), true);
            due.same("again, put(" + a + ", true)", desk.put(a, true), true);
            due.same("again, put(" + a + ", false)", desk.put(a, false), true);
        }
        due.same("all gone: some(0)", desk.some(0), 0);
    }

    private static void attackOnAndOff() {
        due.sentence("3: a attacks b, or not any more.");
        for (int a = 0; a < 8; a++) {
            for (int b = 0; b < 8; b++) {
                ArgumentDesk desk = Desks.desk(8);
                desk.attack(a, b, true);
                for (int c = 0; c < 8; c++) {
                    due.same(a + " attacks " + b + ": attackers(" + c + ")", desk.attackers(c), c == b ? 1 << a : 0);
                }
                ArgumentDesk full = Desks.deskOfAllAttacks();
                full.attack(a, b, false);
                for (int c = 0; c < 8; c++) {
                    int left = c == b ? 255 - (1 << a) : 255;
                    due.same(a + " attacks " + b + " no more: attackers(" + c + ")", full.attackers(c), left);
                }
            }
        }
    }

    private static void attackNotThere() {
        due.sentence("3: One of them is not there: refused, answers false");
        ArgumentDesk desk = Desks.desk(8, "70", "07", "77");
        desk.put(7, false);
        due.same("the first gone", desk.attack(7, 0, true), false);
        due.same("the second gone", desk.attack(0, 7, true), false);
        due.same("both gone", desk.attack(7, 7, true), false);
        due.same("the first gone, off", desk.attack(7, 0, false), false);
        due.same("the second gone, off", desk.attack(0, 7, false), false);
        due.same("never there", new ArgumentDesk().attack(0, 0, true), false);
        for (int a : Desks.outsideArguments()) {
            ArgumentDesk full = Desks.deskOfAllAttacks();
            ArgumentDesk still = Desks.desk(8);
            for (int b = 0; b < 8; b += 7) {
                due.same("attack(" + a + ", " + b + ", true)", still.attack(a, b, true), false);
                due.same("attack(" + b + ", " + a + ", true)", still.attack(b, a, true), false);
                due.same("attack(" + a + ", " + b + ", false)", full.attack(a, b, false), false);
                due.same("attack(" + b + ", " + a + ", false)", full.attack(b, a, false), false);
            }
            due.same("attack(" + a + ", " + a + ", true)", still.attack(a, a, true), false);
            due.same("attack(" + a + ", " + a + ", false)", full.attack(a, a, false), false);
            due.same("no attack came", still.count(0), 256);
            due.same("no attack went", full.effort(255), 64);
        }
    }

    private static void attackSoAlready() {
        due.sentence("3: or it is so already: refused, answers false");
        for (int a = 0; a < 8; a++) {
            for (int b = 0; b < 8; b++) {
                ArgumentDesk desk = Desks.desk(8);
                String call = "attack(" + a + ", " + b;
                due.same("never there: " + call + ", false)", desk.attack(a, b, false), false);
                desk.attack(a, b, true);
                due.same("there: " + call + ", true)", desk.attack(a, b, true), false);
                due.same("there as before: attackers(" + b + ")", desk.attackers(b), 1 << a);
                desk.attack(a, b, false);
                due.same("gone: " + call + ", false)", desk.attack(a, b, false), false);
                due.same("gone as before: attackers(" + b + ")", desk.attackers(b), 0);
            }
        }
    }

    private static void attackElse() {
        due.sentence("3: Else true.");
        ArgumentDesk desk = Desks.desk(8);
        for (int pair = 0; pair < 64; pair++) {
            due.same("on " + pair, desk.attack(pair / 8, pair % 8, true), true);
        }
        for (int pair = 63; pair >= 0; pair--) {
            due.same("off " + pair, desk.attack(pair / 8, pair % 8, false), true);
            due.same("on again " + pair, desk.attack(pair / 8, pair % 8, true), true);
            due.same("off again " + pair, desk.attack(pair / 8, pair % 8, false), true);
        }
        due.same("no attack left", desk.count(0), 256);
    }

    private static void attackers() {
        due.sentence("4: The arguments that attack a, as a set");
        due.same("none attacks it", Desks.desk(8).attackers(0), 0);
        due.same("all eight attack it", Desks.deskOfAllAttacks().attackers(7), 255);
        due.same("it attacks itself", Desks.desk(1, "00").attackers(0), 1);
        due.same("it attacks, but is not attacked", Desks.desk(2, "01").attackers(0), 0);

        due.sentence("4: BAD if a is not there");
        ArgumentDesk desk = Desks.desk(4, "33");
        due.same("never there", desk.attackers(4), BAD);
        desk.put(3, false);
        due.same("not there any more", desk.attackers(3), BAD);
        ArgumentDesk full = Desks.deskOfAllAttacks();
        for (int a : Desks.outsideArguments()) {
            due.same("attackers(" + a + ")", full.attackers(a), BAD);
        }
    }

    private static void count() {
        due.sentence("5: The number of sets in a sense");
        due.same("none", Desks.desk(1, "00").count(5), 0);
        due.same("one", Desks.desk(8).count(8), 1);
        due.same("all", Desks.desk(8).count(0), 256);
        due.same("the empty set, when none is there", new ArgumentDesk().count(5), 1);
        due.same("in the last sense", Desks.desk(2, "01", "10").count(11), 2);

        due.sentence("5: BAD for sense outside 0..11");
        ArgumentDesk desk = Desks.desk(8);
        for (int sense : Desks.outsideSenses()) {
            due.same("count(" + sense + ")", desk.count(sense), BAD);
            due.same("none there: count(" + sense + ")", new ArgumentDesk().count(sense), BAD);
        }
    }

    private static void isSense() {
        due.sentence("6: false for sense outside 0..11");
        for (int sense : Desks.outsideSenses()) {
            ArgumentDesk desk = Desks.desk(8);
            due.same("is(" + sense + ", 0)", desk.is(sense, 0), false);
            due.same("is(" + sense + ", 255)", desk.is(sense, 255), false);
            due.same("is(" + sense + ", 256)", desk.is(sense, 256), false);
            due.same("is(" + sense + ", -1)", desk.is(sense, -1), false);
            due.same("none there: is(" + sense + ", 0)", new ArgumentDesk().is(sense, 0), false);
        }
        due.same("the first sense", Desks.desk(8).is(0, 255), true);
        due.same("the last sense", Desks.desk(8).is(11, 255), true);
    }

    private static void isSet() {
        due.sentence("6: or a set that has an argument that is not there");
        for (int a = 0; a < 8; a++) {
            ArgumentDesk desk = Desks.desk(8);
            desk.put(a, false);
            for (int sense = 0; sense < 12; sense++) {
                due.same(a + " gone: is(" + sense + ", " + (1 << a) + ")", desk.is(sense, 1 << a), false);
                due.same(a + " gone: is(" + sense + ", 255)", desk.is(sense, 255), false);
                due.same(a + " gone: is(" + sense + ", rest)", desk.is(sense, 255 - (1 << a)), true);
            }
        }
        due.same("never there", Desks.desk(3).is(0, 8), false);

        due.sentence("6: or is outside 0..255");
        ArgumentDesk full = Desks.desk(8);
        due.same("the first set", full.is(0, 0), true);
        due.same("the last set", full.is(0, 255), true);
        for (int set : Desks.outsideSets()) {
            for (int sense = 0; sense < 12; sense++) {
                due.same("is(" + sense + ", " + set + ")", full.is(sense, set), false);
            }
        }
        for (int set : Desks.setsWrapped()) {
            due.same("is(0, " + set + ")", Desks.desk(8).is(0, set), false);
            due.same("is(1, " + set + ")", Desks.desk(8).is(1, set), false);
        }
    }

    private static void setNumbers() {
        due.sentence("7: Set number k, from 0, in a sense, in ascending order as numbers");
        ArgumentDesk full = Desks.desk(8);
        for (int k = 0; k < 256; k++) {
            due.same("set(0, " + k + ")", full.set(0, k), k);
        }
        // By number, not by how many members there are: 6 comes before 8.
        due.sets("pairs", Desks.desk(4, "01", "02", "10", "20", "31", "32", "13", "23"), 8, 6, 9);
        due.sets("fewer members later", Desks.desk(3, "02", "12", "20", "21"), 8, 3, 4);
    }

    private static void setSense() {
        due.sentence("7: sense outside 0..11: BAD");
        for (int sense : Desks.outsideSenses()) {
            ArgumentDesk desk = Desks.desk(8);
            for (int k : new int[] {0, -1, 1, 256, MIN, MAX}) {
                due.same("set(" + sense + ", " + k + ")", desk.set(sense, k), BAD);
            }
        }
    }

    private static void setNone() {
        due.sentence("7: there is none: NONE");
        for (int sense = 0; sense < 12; sense++) {
            ArgumentDesk desk = Desks.desk(3, "01", "10");
            int after = desk.count(sense);
            due.same("the last: set(" + sense + ", " + (after - 1) + ") is one", desk.set(sense, after - 1) >= 0, true);
            for (int k : new int[] {after, after + 1, 256, 65536, MAX, -1, -2, -256, MIN}) {
                due.same("set(" + sense + ", " + k + ")", desk.set(sense, k), NONE);
            }
        }
        due.same("a sense without sets", Desks.desk(1, "00").set(5, 0), NONE);
        due.same("after all 256", Desks.desk(8).set(0, 256), NONE);
        due.same("none there, after the empty set", new ArgumentDesk().set(0, 1), NONE);
    }

    private static void some() {
        due.sentence("8: The arguments that are in some set of a sense");
        due.same("there is no set", Desks.desk(3, "01", "12", "20").some(5), 0);
        due.same("the empty set alone", Desks.desk(3, "01", "12", "20").some(4), 0);
        due.same("in one of two", Desks.desk(2, "01", "10").some(4), 3);
        due.same("all eight", Desks.desk(8).some(11), 255);
        due.same("none there", new ArgumentDesk().some(5), 0);

        due.sentence("8: BAD for sense outside 0..11");
        ArgumentDesk desk = Desks.desk(8);
        for (int sense : Desks.outsideSenses()) {
            due.same("some(" + sense + ")", desk.some(sense), BAD);
            due.same("none there: some(" + sense + ")", new ArgumentDesk().some(sense), BAD);
        }
    }

    private static void every() {
        due.sentence("9: The arguments that are in all sets of a sense");
        due.same("the empty set among them", Desks.desk(8).every(0), 0);
        due.same("the empty set alone", Desks.desk(3, "01", "12", "20").every(4), 0);
        due.same("in one of two", Desks.desk(3, "01", "10").every(4), 4);
        due.same("all eight", Desks.desk(8).every(11), 255);
        due.same("none there", new ArgumentDesk().every(5), 0);

        due.sentence("9: (all that are there, if there is no set)");
        due.same("one there", Desks.desk(1, "00").every(5), 1);
        due.same("three there", Desks.desk(3, "01", "12", "20").every(5), 7);
        due.same("eight there", Desks.desk(8, "00").every(5), 255);
        ArgumentDesk fewer = Desks.desk(8, "00");
        fewer.put(3, false);
        due.same("one gone", fewer.every(5), 255 - 8);

        due.sentence("9: BAD for sense outside 0..11");
        ArgumentDesk desk = Desks.desk(8);
        for (int sense : Desks.outsideSenses()) {
            due.same("every(" + sense + ")", desk.every(sense), BAD);
            due.same("none there: every(" + sense + ")", new ArgumentDesk().every(sense), BAD);
        }
    }

    private static void roundNumbers() {
        due.sentence("10: Beginning with the empty set, in each round all that it defends come in: the number of the round,"
            + " from 1, in which a comes in");
        ArgumentDesk full = Desks.desk(8);
        for (int a = 0; a < 8; a++) {
            due.same("no attacks: round(" + a + ")", full.round(a), 1);
        }
        int[] up = {1, NONE, 2, NONE, 3, NONE, 4, NONE};
        ArgumentDesk rising = Desks.desk(8, "01", "12", "23", "34", "45", "56", "67");
        ArgumentDesk falling = Desks.desk(8, "76", "65", "54", "43", "32", "21", "10");
        for (int a = 0; a < 8; a++) {
            due.same("the most rounds: round(" + a + ")", rising.round(a), up[a]);
            due.same("the most rounds, falling: round(" + a + ")", falling.round(a), up[7 - a]);
        }
        // 4 has attackers that fall in the first round and in the second.
        due.same("the later round counts", Desks.desk(5, "01", "12", "23", "14", "34").round(4), 3);
    }

    private static void roundBad() {
        due.sentence("10: a is not there: BAD");
        due.same("none there", new ArgumentDesk().round(0), BAD);
        ArgumentDesk desk = Desks.desk(7);
        due.same("never there", desk.round(7), BAD);
        desk.put(6, false);
        due.same("not there any more", desk.round(6), BAD);
        ArgumentDesk full = Desks.desk(8);
        for (int a : Desks.outsideArguments()) {
            due.same("round(" + a + ")", full.round(a), BAD);
        }
    }

    private static void roundNone() {
        due.sentence("10: it never does: NONE");
        due.same("it attacks itself", Desks.desk(1, "00").round(0), NONE);
        due.same("a pair", Desks.desk(2, "01", "10").round(1), NONE);
        due.same("attacked by one that comes in", Desks.desk(2, "01").round(1), NONE);
        due.same("in all sets of sense 4", Desks.desk(4, "01", "10", "02", "12", "23").round(3), NONE);
        ArgumentDesk full = Desks.deskOfAllAttacks();
        for (int a = 0; a < 8; a++) {
            due.same("all attacks: round(" + a + ")", full.round(a), NONE);
        }
    }

    private static void weakMembers() {
        due.sentence("11: The members of a set that it does not defend, and those that it attacks, together");
        due.same("the empty set", Desks.desk(8).weak(0), 0);
        due.same("the empty set, all attacks", Desks.deskOfAllAttacks().weak(0), 0);
        due.same("the empty set, none there", new ArgumentDesk().weak(0), 0);
        due.same("all eight, no attacks", Desks.desk(8).weak(255), 0);
        due.same("all eight, all attacks", Desks.deskOfAllAttacks().weak(255), 255);
        due.same("not defended, not attacked", Desks.desk(2, "01").weak(2), 2);
        due.same("not defended, and attacked", Desks.desk(2, "01").weak(3), 2);
        due.same("defended, but attacked", Desks.desk(2, "01", "10").weak(3), 3);
        due.same("defended against itself, but attacked", Desks.desk(1, "00").weak(1), 1);
        due.same("one of each", Desks.desk(5, "01", "10", "23").weak(1 + 2 + 8 + 16), 1 + 2 + 8);
        due.same("attacked, but not a member", Desks.desk(2, "01").weak(1), 0);
        due.same("not defended, but not a member", Desks.desk(3, "12").weak(1), 0);
    }

    private static void weakBad() {
        due.sentence("11: BAD for a set that has an argument that is not there or is outside 0..255");
        for (int a = 0; a < 8; a++) {
            ArgumentDesk desk = Desks.desk(8);
            desk.put(a, false);
            due.same(a + " gone: weak(" + (1 << a) + ")", desk.weak(1 << a), BAD);
            due.same(a + " gone: weak(255)", desk.weak(255), BAD);
            due.same(a + " gone: weak(rest)", desk.weak(255 - (1 << a)), 0);
        }
        ArgumentDesk full = Desks.desk(8);
        for (int set : Desks.outsideSets()) {
            due.same("weak(" + set + ")", full.weak(set), BAD);
            due.same("none there: weak(" + set + ")", new ArgumentDesk().weak(set), BAD);
        }
        for (int set : Desks.setsWrapped()) {
            due.same("weak(" + set + ")", Desks.desk(8).weak(set), BAD);
        }
    }

    private static void agree() {
        due.sentence("12: Whether two senses have the same sets");
        ArgumentDesk ring = Desks.desk(3, "01", "12", "20");
        due.same("a sense without sets and itself", ring.agree(5, 5), true);
        due.same("a sense without sets and one with the empty set", ring.agree(5, 4), false);
        due.same("the same, the other way", ring.agree(4, 5), false);
        ArgumentDesk pair = Desks.desk(2, "01", "10");
        due.same("one sense has more sets", pair.agree(0, 8), false);
        due.same("one sense has fewer sets", pair.agree(8, 0), false);
        due.same("as many sets, but others", Desks.desk(3, "01", "10", "02", "22").agree(9, 10), false);
        ArgumentDesk last = Desks.desk(8);
        due.same("the last set alone", last.agree(2, 11), true);
        ArgumentDesk empty = new ArgumentDesk();
        for (int sense = 0; sense < 12; sense++) {
            due.same("with itself, " + sense, pair.agree(sense, sense), true);
            due.same("none there, 5 and " + sense, empty.agree(5, sense), true);
        }

        due.sentence("12: false for one outside 0..11");
        for (int sense : Desks.outsideSenses()) {
            ArgumentDesk desk = Desks.desk(8);
            for (int good = 0; good < 12; good++) {
                due.same("agree(" + sense + ", " + good + ")", desk.agree(sense, good), false);
                due.same("agree(" + good + ", " + sense + ")", desk.agree(good, sense), false);
            }
            due.same("agree(" + sense + ", itself)", desk.agree(sense, sense), false);
            due.same("none there: agree(" + sense + ", 0)", new ArgumentDesk().agree(sense, 0), false);
        }
    }

    private static void effortSmallest() {
        due.sentence("13: The smallest number of attacks that must be taken away or added, between arguments that are there,"
            + " so that a set is one of sense 5");
        due.same("nothing to do", Desks.desk(2, "01").effort(1), 0);
        due.same("all eight, no attacks", Desks.desk(8).effort(255), 0);
        due.same("all eight, all attacks", Desks.deskOfAllAttacks().effort(255), 64);
        due.same("one of eight, all attacks", Desks.deskOfAllAttacks().effort(128), 1);
        due.same("one of eight, no attacks", Desks.desk(8).effort(1), 7);
        due.same("an attack on itself", Desks.desk(1, "00").effort(1), 1);
        due.same("both ways are two attacks", Desks.desk(2, "01", "10").effort(3), 2);
        due.same("some to take away and some to add", Desks.desk(4, "01", "10", "00", "23").effort(3), 5);
        due.same("attacks from outside stay", Desks.desk(3, "10", "01", "11", "02", "20").effort(1), 0);
        due.same("those not there need no attack", Desks.deskWith(2, 5).effort(4), 1);
    }

    private static void effortNone() {
        due.sentence("13: NONE if that is not possible (the empty set, if some argument is there)");
        for (int a = 0; a < 8; a++) {
            due.same("with " + a + " alone", Desks.deskWith(a).effort(0), NONE);
        }
        due.same("with all, no attacks", Desks.desk(8).effort(0), NONE);
        due.same("with all, all attacks", Desks.deskOfAllAttacks().effort(0), NONE);
        due.same("none there, at first", new ArgumentDesk().effort(0), 0);
        ArgumentDesk emptied = Desks.desk(1, "00");
        emptied.put(0, false);
        due.same("none there any more", emptied.effort(0), 0);
    }

    private static void effortBad() {
        due.sentence("13: BAD as for weak");
        for (int a = 0; a < 8; a++) {
            ArgumentDesk desk = Desks.desk(8);
            desk.put(a, false);
            due.same(a + " gone: effort(" + (1 << a) + ")", desk.effort(1 << a), BAD);
            due.same(a + " gone: effort(255)", desk.effort(255), BAD);
            due.same(a + " gone: effort(rest)", desk.effort(255 - (1 << a)), 0);
        }
        ArgumentDesk full = Desks.desk(8);
        for (int set : Desks.outsideSets()) {
            due.same("effort(" + set + ")", full.effort(set), BAD);
            due.same("none there: effort(" + set + ")", new ArgumentDesk().effort(set), BAD);
        }
        for (int set : Desks.setsWrapped()) {
            due.same("effort(" + set + ")", Desks.desk(8).effort(set), BAD);
        }
    }

    /** Each way to be refused, by its call, for a desk as busyDesk makes it. */
    private static Map<String, Predicate<ArgumentDesk>> refusals() {
        Map<String, Predicate<ArgumentDesk>> calls = new LinkedHashMap<>();
        calls.put("put(-1, true)", desk -> !desk.put(-1, true));
        calls.put("put(8, true)", desk -> !desk.put(8, true));
        calls.put("put(38, true)", desk -> !desk.put(38, true));
        calls.put("put(32, false)", desk -> !desk.put(32, false));
        calls.put("put(0, true)", desk -> !desk.put(0, true));
        calls.put("put(6, false)", desk -> !desk.put(6, false));
        calls.put("attack(0, 6, true)", desk -> !desk.attack(0, 6, true));
        calls.put("attack(6, 0, true)", desk -> !desk.attack(6, 0, true));
        calls.put("attack(6, 6, true)", desk -> !desk.attack(6, 6, true));
        calls.put("attack(33, 2, false)", desk -> !desk.attack(33, 2, false));
        calls.put("attack(0, -1, true)", desk -> !desk.attack(0, -1, true));
        calls.put("attack(0, 1, true)", desk -> !desk.attack(0, 1, true));
        calls.put("attack(0, 2, false)", desk -> !desk.attack(0, 2, false));
        calls.put("attackers(6)", desk -> desk.attackers(6) == BAD);
        calls.put("count(12)", desk -> desk.count(12) == BAD);
        calls.put("is(12, 0)", desk -> !desk.is(12, 0));
        calls.put("is(0, 64)", desk -> !desk.is(0, 64));
        calls.put("is(0, 256)", desk -> !desk.is(0, 256));
        calls.put("is(0, 3)", desk -> !desk.is(0, 3));
        calls.put("set(12, 0)", desk -> desk.set(12, 0) == BAD);
        calls.put("set(0, 300)", desk -> desk.set(0, 300) == NONE);
        calls.put("set(0, -1)", desk -> desk.set(0, -1) == NONE);
        calls.put("some(-1)", desk -> desk.some(-1) == BAD);
        calls.put("every(12)", desk -> desk.every(12) == BAD);
        calls.put("round(6)", desk -> desk.round(6) == BAD);
        calls.put("round(0)", desk -> desk.round(0) == NONE);
        calls.put("weak(64)", desk -> desk.weak(64) == BAD);
        calls.put("weak(-1)", desk -> desk.weak(-1) == BAD);
        calls.put("agree(12, 12)", desk -> !desk.agree(12, 12));
        calls.put("agree(0, 1)", desk -> !desk.agree(0, 1));
        calls.put("effort(64)", desk -> desk.effort(64) == BAD);
        calls.put("effort(256)", desk -> desk.effort(256) == BAD);
        calls.put("effort(0)", desk -> desk.effort(0) == NONE);
        return calls;
    }

    private static ArgumentDesk busyDesk() {
        return Desks.desk(6, "01", "10", "12", "23", "34", "42", "55");
    }

    private static void refusedChangesNothing() {
        due.sentence("14: Where nothing else is said, a call that is refused (by a code below 0 that is named, or by false)"
            + " changes nothing");
        String before = Desks.seen(busyDesk());
        refusals().forEach((call, isRefused) -> {
            ArgumentDesk desk = busyDesk();
            due.same(call + " is refused", isRefused.test(desk), true);
            due.same(call + " changed nothing", Desks.seen(desk).equals(before), true);
            due.same(call + " is refused after questions", isRefused.test(desk), true);
            due.same(call + " changed nothing after questions", Desks.seen(desk).equals(before), true);
            due.same("a change after " + call, desk.attack(1, 0, false), true);
            due.same("the change after " + call + " is seen", desk.every(4), 1);
        });
    }

    private static void lastCall() {
        due.sentence("An object is used for at most 512 calls after it has been made");
        ArgumentDesk desk = Desks.desk(8);
        for (int call = 9; call <= 510; call++) {
            due.same("call " + call, desk.attack(0, 1, call % 2 == 1), true);
        }
        due.same("call 511", desk.attack(0, 1, true), true);
        due.same("call 512", desk.set(5, 0), 253);
    }

    private static void neverThrows() {
        due.sentence("LANGUAGE 7: No call may ever throw or fail to end, for any arguments in any state");
        int[] odd = {0, 1, 5, 7, 8, 11, 12, 31, 32, 64, 255, 256, 3071, 3072, 1 << 24, -1, -256, MIN, MAX};
        ArgumentDesk[] desks = {new ArgumentDesk(), Desks.desk(8), Desks.deskOfAllAttacks(), busyDesk()};
        int ended = 0;
        for (ArgumentDesk desk : desks) {
            for (int one : odd) {
                for (int two : odd) {
                    askAll(desk, one, two);
                    ended++;
                }
            }
        }
        due.same("rounds of calls that ended", ended, desks.length * odd.length * odd.length);
    }

    private static void askAll(ArgumentDesk desk, int one, int two) {
        desk.attack(one, two, true);
        desk.attackers(one);
        desk.count(one);
        desk.is(one, two);
        desk.set(one, two);
        desk.some(one);
        desk.every(one);
        desk.round(one);
        desk.weak(one);
        desk.agree(one, two);
        desk.effort(one);
        desk.attack(two, one, false);
        desk.put(one, false);
        desk.put(two, true);
    }
}
