/** What the tests share: comparing answers, and telling a text to an object. */
final class Calls {
    private static int wrong = 0;
    private static int asked = 0;
    private static String words = "";

    private Calls() { }

    /** The document's words that the next answers are there for: a wrong answer is printed with them. */
    static void sentence(String document) {
        words = "[" + document + "] ";
    }

    static void due(String call, long got, long want) {
        asked++;
        if (got != want) {
            wrong++;
            System.out.println(words + call + " answered " + got + ", due is " + want);
        }
    }

    static void due(String call, boolean got, boolean want) {
        due(call, got ? 1 : 0, want ? 1 : 0);
    }

    /** Feeds a text, twenty bytes at a time, what is too much taken back. */
    static void feed(RightKeys keys, String text) {
        int padded = (text.length() + 19) / 20 * 20;
        int[] words = new int[padded / 4];
        for (int i = 0; i < padded; i++) {
            int sign = i < text.length() ? text.charAt(i) & 255 : 0;
            words[i / 4] = words[i / 4] << 8 | sign;
        }
        for (int i = 0; i < words.length; i += 5) {
            keys.feed(words[i], words[i + 1], words[i + 2], words[i + 3], words[i + 4]);
        }
        keys.back(padded - text.length());
    }

    static RightKeys told(String text) {
        RightKeys keys = new RightKeys();
        feed(keys, text);
        due("read() of " + text, keys.read(), 0);
        return keys;
    }

    /** An object that was told a text and went through hours, 72 at a time at most. */
    static RightKeys behind(String text, int hours) {
        RightKeys keys = told(text);
        for (int left = hours; left > 0; left -= 72) {
            keys.hours(Math.min(72, left));
        }
        return keys;
    }

    /** So many HOUSES a, b, c .., all with the same numbers. */
    static String houses(int n, String numbers) {
        StringBuilder b = new StringBuilder();
        for (int i = 0; i < n; i++) {
            b.append("house ").append((char) ('a' + i)).append(' ').append(numbers).append(';');
        }
        return b.toString();
    }

    static void fault(String text, int number, int place) {
        RightKeys keys = new RightKeys();
        feed(keys, text);
        due("read() of " + text, keys.read(), number);
        due("place() of " + text, keys.place(), place);
    }

    static void end() {
        System.out.println(asked + " answers, " + wrong + " wrong");
        if (wrong != 0) {
            System.exit(1);
        }
    }
}
