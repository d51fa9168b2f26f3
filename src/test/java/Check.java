import java.util.function.IntToLongFunction;
import java.util.function.IntSupplier;

/** What all tests share: asking, counting what is wrong, and telling a text to a tape. */
final class Check {
    private static int asked = 0;
    private static int wrong = 0;
    private static String sentence = "";

    private Check() {
    }

    /** From here on it is this sentence of the document that is tested: P and a promise's number, T and a term's. */
    static void of(String part, String words) {
        sentence = part + " \"" + words + "\": ";
    }

    static void due(String call, long got, long want) {
        asked++;
        if (got != want) {
            wrong++;
            System.out.println(sentence + call + " answered " + got + ", due is " + want);
        }
    }

    static void same(String call, String got, String want) {
        asked++;
        if (!got.equals(want)) {
            wrong++;
            System.out.println(sentence + call + " is\n  " + got + "\nwas\n  " + want);
        }
    }

    /** From least to most a call is not refused; beyond them, and far beyond, it is. */
    static void bounds(String call, IntToLongFunction ask, int least, int most, long refusal) {
        int[] beyond = {least - 1, most + 1, -1, most + 256, most + 65536, least - 65536, Integer.MIN_VALUE, Integer.MAX_VALUE};
        for (int number : beyond) {
            if (number < least || number > most) {
                due(call + " of " + number, ask.applyAsLong(number), refusal);
            }
        }
        int[] within = {least, most};
        for (int number : within) {
            due(call + " of " + number + " is refused", ask.applyAsLong(number) == refusal ? 1 : 0, 0);
        }
    }

    /** A call that is refused leaves all as it was. */
    static void refused(String call, BalloonGrocers x, IntSupplier ask, int refusal) {
        String before = allOf(x);
        due(call, ask.getAsInt(), refusal);
        same("all behind " + call, allOf(x), before);
    }

    static String allOf(BalloonGrocers x) {
        return stateOf(x) + " fault " + x.fault(0) + " " + x.fault(1);
    }

    /** All that can be asked of a small valley, its tape, its plan and its slots without changing any. */
    static String stateOf(BalloonGrocers x) {
        StringBuilder all = new StringBuilder();
        for (int what = 0; what <= 12; what++) {
            all.append(x.count(what)).append(' ');
        }
        all.append(x.money());
        for (int layer = 0; layer < x.count(2); layer++) {
            for (int hour = 0; hour < x.count(3); hour++) {
                all.append(" w").append(x.wind(layer, hour));
            }
        }
        for (int shop = 0; shop < x.count(7); shop++) {
            for (int what = 0; what < 6; what++) {
                all.append(" s").append(x.shop(shop, what));
            }
            for (int hour = 0; hour < x.count(3); hour++) {
                all.append(" a").append(x.act(shop, hour));
            }
            all.append(" f").append(x.fair(shop));
        }
        for (int door = 0; door < x.count(8); door++) {
            for (int what = 0; what < 4; what++) {
                all.append(" d").append(x.door(door, what));
            }
        }
        for (int i = 0; i < x.count(11); i++) {
            for (int what = 0; what < 4; what++) {
                all.append(" c").append(x.changed(i, what));
            }
        }
        for (int slot = 0; slot < 4; slot++) {
            all.append(" k").append(x.kites(slot)).append(" m").append(x.smoke(slot));
        }
        return all.toString();
    }

    /** Puts a text behind the tape: whole feeds, then the filling is cut off. */
    static void tell(BalloonGrocers x, String text) {
        int before = x.count(10);
        int[] numbers = new int[5];
        for (int from = 0; from < text.length(); from += 20) {
            for (int i = 0; i < 5; i++) {
                numbers[i] = 0;
                for (int k = 0; k < 4; k++) {
                    int at = from + 4 * i + k;
                    numbers[i] = numbers[i] << 8 | (at < text.length() ? text.charAt(at) & 255 : 32);
                }
            }
            x.feed(numbers[0], numbers[1], numbers[2], numbers[3], numbers[4]);
        }
        due("end behind a text", x.end(before + text.length()), before + text.length());
    }

    /** A new object with a valley of so many lines. */
    static BalloonGrocers told(int lines, String text) {
        BalloonGrocers x = new BalloonGrocers();
        tell(x, text);
        due("valley() of " + text, x.valley(), lines);
        return x;
    }

    /** A new object with a valley: each line has its sign ; . */
    static BalloonGrocers told(String text) {
        return told(text.length() - text.replace(";", "").length(), text);
    }

    /** A row of numbers in a slot. */
    static void put(BalloonGrocers x, int slot, int width, long... numbers) {
        due("row", x.row(slot, width, numbers.length), 0);
        for (int i = 0; i < numbers.length; i++) {
            due("write", x.write(slot, i, numbers[i]), 0);
        }
    }

    static void finish(String name) {
        System.out.println(name + ": " + asked + " answers, " + wrong + " not as due");
        if (wrong != 0) {
            System.exit(1);
        }
    }
}
