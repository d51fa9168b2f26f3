/** What all tests share: asking, counting what is wrong, and telling a text to a tape. */
final class Check {
    private static int asked = 0;
    private static int wrong = 0;

    private Check() {
    }

    static void due(String call, long got, long want) {
        asked++;
        if (got != want) {
            wrong++;
            System.out.println(call + " answered " + got + ", due is " + want);
        }
    }

    /** Puts a text behind the tape: whole feeds, then the filling is cut off. */
    static void tell(BalloonGrocers x, String text) {
        int before = x.count(10);
        int[] numbers = new int[5];
        for (int from = 0; from < text.length(); from += 20) {
            for (int i = 0; i < 5; i++) {
                numbers[i] = 0;
                for (int k = 0; k < 4; k++) {
                    int at = from + 4 * i + k;
                    numbers[i] = numbers[i] << 8 | (at < text.length() ? text.charAt(at) & 255 : 32);
                }
            }
            x.feed(numbers[0], numbers[1], numbers[2], numbers[3], numbers[4]);
        }
        due("end behind a text", x.end(before + text.length()), before + text.length());
    }

    /** A new object with a valley of so many lines. */
    static BalloonGrocers told(int lines, String text) {
        BalloonGrocers x = new BalloonGrocers();
        tell(x, text);
        due("valley() of " + text, x.valley(), lines);
        return x;
    }

    static void finish(String name) {
        System.out.println(name + ": " + asked + " answers, " + wrong + " not as due");
        if (wrong != 0) {
            System.exit(1);
        }
    }
}
