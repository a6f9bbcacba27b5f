import java.nio.charset.StandardCharsets;

/** What the tests share: feeding texts, and counting answers that are not as due. */
final class Check {
    private static int wrong = 0;
    private static int asked = 0;
    private static String sentence = "";

    private Check() {
    }

    /** The sentence of the document whose answers come next: it is told with each that is wrong. */
    static void of(String words) {
        sentence = words.isEmpty() ? "" : "[" + words + "] ";
    }

    static void due(String call, long got, long want) {
        asked++;
        if (got != want) {
            wrong++;
            if (wrong <= 40) {
                System.out.println(sentence + call + " answered " + got + ", due is " + want);
            }
        }
    }

    static void due(String call, boolean got, boolean want) {
        due(call, got ? 1 : 0, want ? 1 : 0);
    }

    static void thrown(String call, Object got, Class<?> want) {
        asked++;
        boolean same = got != null && got.getClass() == want;
        if (!same) {
            wrong++;
            System.out.println(sentence + call + " threw " + got + ", due is " + want);
        }
    }

    static int wrongs() {
        return wrong;
    }

    static void end() {
        System.out.println(wrong == 0 ? asked + " answers are as due" : wrong + " of " + asked + " answers are not as due");
        if (wrong != 0) {
            System.exit(1);
        }
    }

    /** Feeds a text behind what the tape has; the last call's answer (or what the tape has, if there was none). */
    static int feed(LosersBooks books, String text) {
        byte[] bytes = text.getBytes(StandardCharsets.ISO_8859_1);
        int answer = books.count(4);
        for (int from = 0; from < bytes.length; from += 20) {
            int[] five = new int[5];
            for (int i = 0; i < 20; i++) {
                int b = from + i < bytes.length ? bytes[from + i] & 255 : 0;
                five[i / 4] = five[i / 4] << 8 | b;
            }
            answer = books.feed(five[0], five[1], five[2], five[3], five[4]);
        }
        return answer;
    }

    static int fault(LosersBooks books, int sort, String text) {
        books.end(0);
        feed(books, text);
        return books.fault(sort);
    }

    static int text(LosersBooks books, int sort, String text) {
        books.end(0);
        feed(books, text);
        return books.text(sort);
    }

    /** The fault of a text, whether it is taken, and that the tape is empty then alone. */
    static void faultIs(int sort, String text, int want) {
        LosersBooks x = new LosersBooks();
        due("fault(" + sort + ") of '" + text + "'", fault(x, sort, text), want);
        due("bytes of '" + text + "' behind fault", x.count(4), text.length());
        due("text(" + sort + ") of '" + text + "'", x.text(sort) != -1, want == -1);
        due("bytes of '" + text + "' behind text", x.count(4), want == -1 ? 0 : text.length());
        due("kingdoms, laws and campaigns behind '" + text + "'", x.count(0) > 0 || x.count(2) + x.count(3) > 0, want == -1);
    }

    static LosersBooks realm(String text) {
        LosersBooks books = new LosersBooks();
        due("text(0) of " + text, text(books, 0, text) > 1, true);
        return books;
    }

    /** A realm under a law that holds. */
    static LosersBooks ruled(String text, String law) {
        LosersBooks books = realm(text);
        due("text(1) of " + law, text(books, 1, law), 0);
        due("law(0)", books.law(0), true);
        return books;
    }
}
