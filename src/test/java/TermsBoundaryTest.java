/** Each sentence of the document's 'Terms' that has a boundary case, with a test of its own. */
public final class TermsBoundaryTest {
    private static final int BAD = ArgumentDesk.BAD;
    private static final int NONE = ArgumentDesk.NONE;
    private static final Due due = new Due();

    public static void main(String[] args) {
        arguments();
        attacks();
        setsOfThoseThere();
        setAttacks();
        reach();
        defends();
        greatest();
        sense0();
        sense1();
        sense2();
        sense3();
        sense4();
        sense5();
        sense6();
        sense7();
        sense8();
        sense9();
        sense10();
        sense11();
        sense11Joined();
        sense11NotJoined();
        sense11NoArguments();
        due.end();
    }

    private static ArgumentDesk ringOfThree() {
        return Desks.desk(3, "01", "12", "20");
    }

    private static ArgumentDesk pair() {
        return Desks.desk(2, "01", "10");
    }

    private static ArgumentDesk selfAttacker() {
        return Desks.desk(1, "00");
    }

    /** 0 and 1 attack each other; 0 attacks 2, and 1 attacks 3 and 4, which all attack themselves. */
    private static ArgumentDesk forkIntoSelfAttackers() {
        return Desks.desk(5, "01", "10", "02", "13", "14", "22", "33", "44");
    }

    private static void arguments() {
        due.sentence("There are up to 8 ARGUMENTS, 0 to 7");
        due.same("with 0 alone", Desks.deskWith(0).set(5, 0), 1);
        due.same("with 7 alone", Desks.deskWith(7).set(5, 0), 128);
        ArgumentDesk full = Desks.desk(8);
        due.same("with all eight", full.set(5, 0), 255);
        due.same("a ninth, put(8, true)", full.put(8, true), false);
        due.same("one before the first, put(-1, true)", full.put(-1, true), false);
        due.same("still all eight", full.set(5, 0), 255);

        due.sentence("some are THERE, at first none");
        for (int a = 0; a < 8; a++) {
            due.same("new: attackers(" + a + ")", new ArgumentDesk().attackers(a), BAD);
        }
        due.same("new: some(0)", new ArgumentDesk().some(0), 0);
    }

    private static void attacks() {
        due.sentence("Between arguments that are there, and from one to itself, there may be ATTACKS");
        ArgumentDesk full = Desks.desk(8);
        for (int a = 0; a < 8; a++) {
            for (int b = 0; b < 8; b++) {
                due.same("attack(" + a + ", " + b + ", true)", full.attack(a, b, true), true);
            }
        }
        for (int a = 0; a < 8; a++) {
            due.same("attackers(" + a + ") of all attacks", full.attackers(a), 255);
        }
        ArgumentDesk alone = Desks.deskWith(7);
        due.same("attack(7, 7, true)", alone.attack(7, 7, true), true);
        due.same("attackers(7) on itself", alone.attackers(7), 128);
    }

    private static void setsOfThoseThere() {
        due.sentence("Sets of arguments are written as numbers whose bit a speaks of argument a");
        for (int a = 0; a < 8; a++) {
            due.same("set of " + a + " alone", Desks.deskWith(a).some(0), 1 << a);
        }

        due.sentence("all sets are of arguments that are there");
        ArgumentDesk desk = Desks.deskWith(2, 5);
        due.sets("2 and 5", desk, 0, 0, 4, 32, 36);
        due.sets("2 and 5", desk, 1, 0, 4, 32, 36);
        for (int sense = 2; sense < 12; sense++) {
            due.sets("2 and 5", desk, sense, 36);
        }
        desk.put(5, false);
        due.sets("2 without 5", desk, 0, 0, 4);
        for (int sense = 2; sense < 12; sense++) {
            due.sets("2 without 5", desk, sense, 4);
        }
    }

    private static void setAttacks() {
        due.sentence("A set attacks an argument iff one of its members does");
        ArgumentDesk desk = Desks.desk(3, "02");
        due.sets("one of two members attacks", desk, 5, 3);
        due.same("one of three members attacks", desk.weak(7), 4);
        due.same("no member attacks", desk.weak(6), 4);
        due.same("one of two attackers is a member", Desks.desk(3, "02", "12").is(0, 5), false);
        // The empty set attacks none, so it does not defend what is attacked.
        due.sets("the empty set beside a pair", pair(), 3, 0);
        due.same("effort of a set that attacks none", Desks.desk(3).effort(1), 2);
    }

    private static void reach() {
        due.sentence("its REACH is the set with all that it attacks");
        due.sets("members that none attacks are reached", Desks.desk(2), 5, 3);
        due.sets("attacked ones are reached", Desks.desk(2, "01"), 5, 1);
        due.sets("attackers are not reached", Desks.desk(2, "01", "00"), 5);
        due.sets("the empty set reaches none", selfAttacker(), 5);
    }

    private static void defends() {
        due.sentence("It DEFENDS an argument iff it attacks all that attack that");
        ArgumentDesk chain = Desks.desk(2, "01");
        due.same("none attacks 0, so the empty set defends it", chain.is(2, 0), false);
        due.same("round of 0, which none attacks", chain.round(0), 1);
        ArgumentDesk twice = Desks.desk(4, "10", "20", "31");
        due.same("one of two attackers is attacked", twice.weak(9), 1);
        due.same("one of two attackers is attacked, sense 1", twice.is(1, 9), false);
        twice.attack(3, 2, true);
        due.same("both attackers are attacked", twice.weak(9), 0);
        due.same("both attackers are attacked, sense 1", twice.is(1, 9), true);
        due.same("one that attacks back defends itself", pair().is(1, 1), true);
    }

    private static void greatest() {
        due.sentence("Of some sets, one is GREATEST if no other one of them has all its members and more");
        ArgumentDesk fork = Desks.desk(3, "01", "02", "10", "20");
        due.sets("one member or two, sense 4", fork, 4, 1, 6);
        due.sets("one member or two, sense 8", fork, 8, 1, 6);
        due.sets("the only set", selfAttacker(), 8, 0);
        due.sets("all members", Desks.desk(8), 8, 255);
    }

    private static void sense0() {
        due.sentence("0 those that attack none of their members");
        due.sets("all attacks: the empty set alone", Desks.deskOfAllAttacks(), 0, 0);
        due.sets("one that attacks itself", Desks.desk(2, "00"), 0, 0, 2);
        due.sets("an attack one way", Desks.desk(2, "10"), 0, 0, 1, 2);
        ArgumentDesk full = Desks.desk(8);
        due.same("no attacks: count(0)", full.count(0), 256);
        due.same("no attacks: is(0, 255)", full.is(0, 255), true);
        due.sets("none there", new ArgumentDesk(), 0, 0);
    }

    private static void sense1() {
        due.sentence("1 of these, those that defend all their members");
        due.sets("the empty set has none to defend", ringOfThree(), 1, 0);
        due.sets("defended, but not of these", pair(), 1, 0, 1, 2);
        due.sets("one that attacks itself is defended, but not of these", selfAttacker(), 1, 0);
        due.sets("not defended", Desks.desk(2, "01"), 1, 0, 1);
        due.same("no attacks: count(1)", Desks.desk(8).count(1), 256);
        due.sets("none there", new ArgumentDesk(), 1, 0);
    }

    private static void sense2() {
        due.sentence("2 of those in sense 1, those that have all that they defend");
        due.sets("the empty set defends none", pair(), 2, 0, 1, 2);
        due.sets("the empty set defends 0", Desks.desk(2, "01"), 2, 1);
        due.sets("the empty set defends all eight", Desks.desk(8), 2, 255);
        due.sets("has all that it defends, but is not in sense 1", selfAttacker(), 2, 0);
        due.sets("none there", new ArgumentDesk(), 2, 0);
    }

    private static void sense3() {
        due.sentence("3 the one in sense 2 whose members are in all others in sense 2");
        due.sets("no others, none there", new ArgumentDesk(), 3, 0);
        due.sets("no others, all there", Desks.desk(8), 3, 255);
        due.sets("the empty one", pair(), 3, 0);
        due.sets("all that the others share", Desks.desk(8, "01", "10"), 3, 252);
        due.sets("all attacks", Desks.deskOfAllAttacks(), 3, 0);
        // Both others have 3, but the empty set does not.
        due.sets("not all that the greatest share", Desks.desk(4, "01", "10", "02", "12", "23"), 3, 0);
    }

    private static void sense4() {
        due.sentence("4 the greatest in sense 1");
        due.sets("the empty set alone is in sense 1", ringOfThree(), 4, 0);
        due.sets("without the empty set", pair(), 4, 1, 2);
        due.sets("all there", Desks.desk(8), 4, 255);
        due.sets("greatest in sense 0, but not in sense 1", Desks.desk(2, "01"), 4, 1);
        due.sets("none there", new ArgumentDesk(), 4, 0);
    }

    private static void sense5() {
        due.sentence("5 those in sense 0 whose reach is everything that is there");
        due.sets("there is none", ringOfThree(), 5);
        due.sets("reach is everything, but not in sense 0", selfAttacker(), 5);
        due.sets("none there", new ArgumentDesk(), 5, 0);
        due.sets("not all eight are there", Desks.deskWith(2, 5), 5, 36);
        ArgumentDesk full = Desks.desk(8, "01", "77");
        due.sets("all but one of eight reached", full, 5);
        full.attack(6, 7, true);
        due.sets("all eight reached", full, 5, 1 + 4 + 8 + 16 + 32 + 64);
    }

    private static void sense6() {
        due.sentence("6 those in sense 2 whose reach is greatest among the reaches of those in sense 2");
        due.sets("the same reach twice", pair(), 6, 1, 2);
        due.sets("neither reach within the other", forkIntoSelfAttackers(), 6, 1, 2);
        ArgumentDesk within = Desks.desk(3, "01", "10", "02", "22");
        due.sets("one reach within the other", within, 6, 1);
        due.sets("one reach within the other, sense 4", within, 4, 1, 2);
        due.sets("the empty reach alone", ringOfThree(), 6, 0);
        due.sets("none there", new ArgumentDesk(), 6, 0);
    }

    private static void sense7() {
        due.sentence("7 likewise with sense 0");
        due.sets("the same reach twice", pair(), 7, 1, 2);
        due.sets("no reach within another", ringOfThree(), 7, 1, 2, 4);
        due.sets("neither reach within the other", forkIntoSelfAttackers(), 7, 1, 2);
        ArgumentDesk within = Desks.desk(2, "01");
        due.sets("one reach within the other", within, 7, 1);
        due.sets("one reach within the other, sense 8", within, 8, 1, 2);
        due.sets("the empty reach alone", selfAttacker(), 7, 0);
        due.sets("none there", new ArgumentDesk(), 7, 0);
    }

    private static void sense8() {
        due.sentence("8 the greatest in sense 0");
        due.sets("the empty set alone is in sense 0", Desks.deskOfAllAttacks(), 8, 0);
        due.sets("all there", Desks.desk(8), 8, 255);
        due.sets("not in sense 1", Desks.desk(2, "01"), 8, 1, 2);
        due.sets("none there", new ArgumentDesk(), 8, 0);
    }

    private static void sense9() {
        due.sentence("9 the greatest in sense 1 of which all members are in all sets of sense 4");
        due.sets("sense 4 shares none", pair(), 9, 0);
        due.sets("sense 4 shares one", Desks.desk(3, "01", "10"), 9, 4);
        // Either of 0 and 1 defends 3, but 3 does not defend itself.
        ArgumentDesk floating = Desks.desk(4, "01", "10", "02", "12", "23");
        due.same("sense 4 shares 3", floating.every(4), 8);
        due.sets("sense 4 shares one that is not in sense 1", floating, 9, 0);
        ArgumentDesk more = Desks.desk(2, "01", "10", "11");
        due.sets("sense 4 has one set", more, 9, 1);
        due.sets("sense 4 has one set, and sense 3 less", more, 3, 0);
        due.sets("sense 4 shares more than sense 8", Desks.desk(2, "01"), 9, 1);
        due.sets("sense 4 shares less than sense 6", Desks.desk(3, "01", "10", "02", "22"), 9, 0);
        due.sets("the empty set alone in sense 4", ringOfThree(), 9, 0);
        due.sets("none there", new ArgumentDesk(), 9, 0);
    }

    private static void sense10() {
        due.sentence("10 likewise, in all sets of sense 6");
        due.sets("sense 6 shares none", pair(), 10, 0);
        due.sets("sense 6 shares one", Desks.desk(3, "01", "10"), 10, 4);
        due.sets("sense 6 shares one that is not in sense 1", Desks.desk(4, "01", "10", "02", "12", "23"), 10, 0);
        ArgumentDesk fewer = Desks.desk(3, "01", "10", "02", "22");
        due.sets("sense 6 has one set", fewer, 10, 1);
        due.sets("sense 6 has one set, and sense 4 two", fewer, 9, 0);
        due.sets("sense 6 shares none, and sense 5 has none", forkIntoSelfAttackers(), 10, 0);
        due.sets("the empty set alone in sense 6", ringOfThree(), 10, 0);
        due.sets("none there", new ArgumentDesk(), 10, 0);
    }

    private static void sense11() {
        due.sentence("11 those in sense 0 that are SO in all arguments");
        // {0, 1} is so in {0}, and in none of {1}, but it attacks a member.
        due.same("so, but not in sense 0", Desks.desk(2, "01").is(11, 3), false);
        due.sets("all there", Desks.desk(8), 11, 255);
        due.sets("all attacks", Desks.deskOfAllAttacks(), 11, 0);
    }

    private static void sense11Joined() {
        due.sentence("if from every argument of U one comes to every other one of U over attacks within U, its members in U"
            + " are a greatest set of U that attacks none of its members");
        due.sets("no other one", Desks.deskWith(6), 11, 64);
        due.sets("no other one, and it attacks itself", selfAttacker(), 11, 0);
        due.sets("two, both ways", pair(), 11, 1, 2);
        due.sets("two, one way", Desks.desk(2, "01"), 11, 1);
        due.sets("two, the other way", Desks.desk(2, "10"), 11, 2);
        due.sets("a ring of three", ringOfThree(), 11, 1, 2, 4);
        ArgumentDesk ring = Desks.desk(8, "01", "12", "23", "34", "45", "56", "67", "70");
        due.same("the longest way, round a ring of eight: count(11)", ring.count(11), 10);
        due.same("the longest way: agree(11, 8)", ring.agree(11, 8), true);
        due.sets("less than a greatest set", Desks.desk(4, "01", "12", "23", "30"), 11, 5, 10);
        // 0 leaves two of the ring, and one comes back from the second to the first over 1 alone.
        due.sets("a way that goes outside U", Desks.desk(4, "01", "12", "23", "31"), 11, 5);
        due.sets("a way that goes outside U, falling", Desks.desk(4, "01", "13", "32", "21"), 11, 9);
    }

    private static void sense11NotJoined() {
        due.sentence("else, for every greatest set C of arguments of U within which one comes from each to each other over"
            + " attacks within U, it is so in those of C that no member of it in U outside C attacks");
        due.sets("each C has one argument", Desks.desk(3, "01", "12"), 11, 5);
        due.sets("no attacks at all", Desks.desk(8), 11, 255);
        due.sets("attacked by a member or by another", Desks.desk(3, "01", "10", "12"), 11, 2, 5);
        // Were C a part of the ring, {0, 3} would have to have 2 too.
        due.sets("a ring and one more", Desks.desk(4, "01", "12", "20"), 11, 9, 10, 12);
        // A member in C that attacks another one of C takes none of C away.
        due.sets("attacked from within C", Desks.desk(4, "01", "12", "20", "03"), 11, 1, 10, 12);
        // 0 leaves 2, 3 and 4 of the ring of four, and they are looked at anew, as a chain.
        due.sets("parts of parts", Desks.desk(5, "01", "12", "23", "34", "41"), 11, 1 + 4 + 16);
        // 0 leaves 2 to 7, then 2 leaves 4 to 7, then 4 leaves 6 and 7, then 6 leaves none.
        ArgumentDesk deep = Desks.desk(8, "01", "12", "23", "34", "45", "56", "67", "71", "73", "75");
        due.sets("parts of parts, to the end", deep, 11, 85);
        ArgumentDesk chain = Desks.desk(8, "01", "12", "23", "34", "45", "56", "67");
        due.sets("a chain of eight", chain, 11, 85);
    }

    private static void sense11NoArguments() {
        due.sentence("(In no arguments it is so.)");
        due.sets("none there", new ArgumentDesk(), 11, 0);
        due.sets("all of C is attacked", Desks.desk(2, "01"), 11, 1);
        due.sets("all of a C of two is attacked", Desks.desk(3, "12", "21", "01", "02"), 11, 1);
        due.same("all seven others are attacked", eightUnderOne().set(11, 0), 1);
        due.same("all seven others are attacked, alone", eightUnderOne().set(11, 1), NONE);
    }

    private static ArgumentDesk eightUnderOne() {
        return Desks.desk(8, "01", "02", "03", "04", "05", "06", "07");
    }
}
