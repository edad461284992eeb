/** Counts answers that are not as due, and feeds texts and bytes. */
final class Checks {
    private int wrong = 0;
    private int asked = 0;

    void due(String what, long got, long want) {
        asked++;
        if (got != want) {
            wrong++;
            if (wrong <= 40) {
                System.out.println(what + " answered " + got + ", due is " + want);
            }
        }
    }

    void due(String what, boolean got, boolean want) {
        due(what, got ? 1 : 0, want ? 1 : 0);
    }

    void end() {
        System.out.println(asked + " answers, " + wrong + " not as due");
        if (wrong > 0) {
            System.exit(1);
        }
    }

    /** Puts these bytes alone on the tape. */
    static void put(QueenBelt x, int[] bytes) {
        x.end(0);
        for (int i = 0; i < bytes.length; i += 20) {
            int[] numbers = new int[5];
            for (int k = 0; k < 20; k++) {
                int octet = i + k < bytes.length ? bytes[i + k] : 32;
                numbers[k / 4] = numbers[k / 4] << 8 | octet;
            }
            x.feed(numbers[0], numbers[1], numbers[2], numbers[3], numbers[4]);
        }
        x.end(bytes.length);
    }

    static void put(QueenBelt x, String text) {
        int[] bytes = new int[text.length()];
        for (int i = 0; i < bytes.length; i++) {
            bytes[i] = text.charAt(i) & 255;
        }
        put(x, bytes);
    }

    static int text(QueenBelt x, String text) {
        put(x, text);
        return x.text();
    }

    static QueenBelt loom(String text) {
        QueenBelt x = new QueenBelt();
        text(x, text);
        return x;
    }

    static long ask(QueenBelt x, String text) {
        put(x, text);
        return x.ask();
    }

    static int strip(QueenBelt x, boolean behind, int... cells) {
        put(x, cells);
        return x.strip(behind);
    }

    static boolean on(QueenBelt x, int... bytes) {
        put(x, bytes);
        return x.on();
    }

    static int[] image(QueenBelt x) {
        int[] bytes = new int[x.image()];
        for (int i = 0; i < bytes.length; i++) {
            bytes[i] = x.octet(i);
        }
        return bytes;
    }

    static int[] summed(int... bytes) {
        int[] all = java.util.Arrays.copyOf(bytes, bytes.length + 1);
        int sum = 113;
        for (int octet : bytes) {
            sum = (3 * sum + octet) % 247;
        }
        all[bytes.length] = sum;
        return all;
    }

    static String many(String part, int times) {
        return part.repeat(Math.max(0, times));
    }
}
