import java.util.stream.IntStream;

/** Desks and wrong inputs that several tests use. */
final class Desks {
    private static final int MIN = Integer.MIN_VALUE;
    private static final int MAX = Integer.MAX_VALUE;

    static final int[] TOO_SMALL = {-1, -2, -7, -8, -9, -12, -255, -256, MIN + 1, MIN};
    static final int[] ARGUMENTS_TOO_LARGE = {8, 9, 15, 16, 31, 255, MAX - 1, MAX};
    static final int[] SENSES_TOO_LARGE = {12, 13, 15, 16, 255, 256, MAX - 1, MAX};
    static final int[] SETS_TOO_LARGE = {256, 257, 511, 512, 65535, MAX - 1, MAX};

    private Desks() {
    }

    /** Numbers that look like 0 to 7 to a shift (which takes five bits of them), a byte or a short. */
    static int[] argumentsWrapped() {
        return wrapped(8, 32, -32, 64, 256, -256, 1 << 16, 1 << 24, MIN);
    }

    /** Numbers that look like 0 to 11 to a byte, a short, or when they are multiplied by 256. */
    static int[] sensesWrapped() {
        return wrapped(12, 16, 256, -256, 1 << 16, 1 << 24, -(1 << 24), MIN);
    }

    /** Numbers that look like 0 to 255 when only their low eight bits are looked at. */
    static int[] setsWrapped() {
        return wrapped(256, 256, -256, 1 << 16, 1 << 24, MIN);
    }

    static int[] outsideArguments() {
        return joined(TOO_SMALL, ARGUMENTS_TOO_LARGE, argumentsWrapped());
    }

    static int[] outsideSenses() {
        return joined(TOO_SMALL, SENSES_TOO_LARGE, sensesWrapped());
    }

    /** Without those that wrap around, which are more than one object may be asked. */
    static int[] outsideSets() {
        return joined(TOO_SMALL, SETS_TOO_LARGE);
    }

    /** A desk with arguments 0 to size - 1 and attacks given as pairs of digits. */
    static ArgumentDesk desk(int size, String... attacks) {
        ArgumentDesk desk = new ArgumentDesk();
        for (int a = 0; a < size; a++) {
            desk.put(a, true);
        }
        for (String pair : attacks) {
            desk.attack(pair.charAt(0) - '0', pair.charAt(1) - '0', true);
        }
        return desk;
    }

    /** A desk with these arguments and no attacks. */
    static ArgumentDesk deskWith(int... arguments) {
        ArgumentDesk desk = new ArgumentDesk();
        for (int a : arguments) {
            desk.put(a, true);
        }
        return desk;
    }

    /** Eight arguments, each of which attacks all eight. */
    static ArgumentDesk deskOfAllAttacks() {
        ArgumentDesk desk = desk(8);
        for (int a = 0; a < 8; a++) {
            for (int b = 0; b < 8; b++) {
                desk.attack(a, b, true);
            }
        }
        return desk;
    }

    /** What can be seen of a desk in 76 calls; the attackers alone tell which arguments and attacks there are. */
    static String seen(ArgumentDesk desk) {
        StringBuilder seen = new StringBuilder();
        for (int a = 0; a < 8; a++) {
            seen.append(desk.attackers(a)).append(',').append(desk.round(a)).append(';');
        }
        for (int sense = 0; sense < 12; sense++) {
            seen.append(desk.count(sense)).append(',').append(desk.some(sense)).append(',');
            seen.append(desk.every(sense)).append(',');
            seen.append(desk.set(sense, 0)).append(',').append(desk.set(sense, 1)).append(';');
        }
        return seen.toString();
    }

    private static int[] wrapped(int bound, int... shifts) {
        return IntStream.of(shifts).flatMap(shift -> IntStream.range(0, bound).map(n -> n + shift)).toArray();
    }

    private static int[] joined(int[]... parts) {
        return IntStream.range(0, parts.length).flatMap(i -> IntStream.of(parts[i])).toArray();
    }
}
