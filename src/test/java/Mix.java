import java.util.ArrayList;
import java.util.List;

/**
 * Every way in which the 1 to 4 slots of a transaction can stand, a letter a slot:
 * A delivered at ts, P pushed, - not delivered.
 */
final class Mix {
    private Mix() {
    }

    static List<String> all() {
        List<String> all = new ArrayList<>();
        List<String> longest = List.of("");
        for (int slots = 1; slots <= 4; slots++) {
            List<String> longer = new ArrayList<>();
            for (String mix : longest) {
                for (String letter : List.of("A", "P", "-")) {
                    longer.add(mix + letter);
                }
            }
            all.addAll(longer);
            longest = longer;
        }
        return all;
    }

    /** Slot i writes this key, each of them on a shard of its own. */
    static int key(int slot) {
        return 5 * slot;
    }

    /** Slot i writes this value. */
    static int value(int slot) {
        return 100 + slot;
    }

    /** A run after which transaction 0, at 10 and pending, has its slots stand so. */
    static String run(String mix) {
        StringBuilder run = new StringBuilder("begin(10)");
        for (int slot = 0; slot < mix.length(); slot++) {
            run.append("; addWrite(0, " + key(slot) + ", " + value(slot) + ")");
        }
        for (int slot = 0; slot < mix.length(); slot++) {
            if (mix.charAt(slot) == 'P') {
                run.append("; read(" + key(slot) + ", " + cached('P') + ")");
            }
            if (mix.charAt(slot) != '-') {
                run.append("; deliver(0, " + slot + ")");
            }
        }
        return run.toString();
    }

    /** The tsCache of a slot's key after the run: what is pushed was pushed by a read at 12. */
    static int cached(char letter) {
        return letter == 'P' ? 12 : 0;
    }

    /** The slotTs after the run. */
    static int placed(char letter) {
        return letter == 'A' ? 10 : letter == 'P' ? 13 : 0;
    }

    static boolean allDelivered(String mix) {
        return mix.indexOf('-') < 0;
    }

    static boolean allAtTs(String mix) {
        return allDelivered(mix) && mix.indexOf('P') < 0;
    }
}
