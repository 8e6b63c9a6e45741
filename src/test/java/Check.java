/** Counts the answers that are not as due, and puts texts into a round. */
final class Check {
    private static int wrong = 0;
    private static int asked = 0;
    private static String place = "";

    private Check() {
    }

    static void promise(int number) {
        place = "promise " + number;
    }

    /** What follows tests these words of the document; section 0 is its description, else a promise's number. */
    static void says(int section, String words) {
        place = (section == 0 ? "description" : "promise " + section) + ", '" + words + "'";
        due("the document has these words", Document.quote(section, words), true);
    }

    static void due(String call, long got, long want) {
        asked++;
        if (got != want) {
            wrong++;
            if (wrong <= 50) {
                System.out.println(place + ": " + call + " answered " + got + ", due is " + want);
            }
        }
    }

    static void due(String call, boolean got, boolean want) {
        due(call, got ? 1 : 0, want ? 1 : 0);
    }

    static int wrong() {
        return wrong;
    }

    static void end() {
        System.out.println(asked + " answers asked for, " + wrong + " not as due");
        if (wrong != 0) {
            System.exit(1);
        }
    }

    /** Four bytes of a text from an offset on, filled up with spaces. */
    static int four(byte[] bytes, int offset) {
        int packed = 0;
        for (int i = offset; i < offset + 4; i++) {
            packed = packed << 8 | (i < bytes.length ? bytes[i] & 255 : 32);
        }
        return packed;
    }

    static byte[] bytes(String text) {
        return text.getBytes(java.nio.charset.StandardCharsets.ISO_8859_1);
    }

    static void feed(DeliveryRound round, String text) {
        byte[] bytes = bytes(text);
        for (int at = 0; at < bytes.length; at += 20) {
            round.append(four(bytes, at), four(bytes, at + 4), four(bytes, at + 8), four(bytes, at + 12),
                    four(bytes, at + 16));
        }
    }

    static int parse(DeliveryRound round, String text) {
        feed(round, text);
        return round.parse(text.length());
    }

    /** A new round of that text. */
    static DeliveryRound round(String text) {
        DeliveryRound round = new DeliveryRound();
        if (parse(round, text) < 0) {
            System.out.println("a test's text was refused: " + text);
            System.exit(1);
        }
        return round;
    }

    /** The answer that is due for a syntax error. */
    static int error(int offset, int kind) {
        return -2 - (8 * offset + kind);
    }

    /** The sign ^ marks where the error is and is not part of the text. */
    static void refused(String marked, int kind) {
        int offset = marked.indexOf('^');
        String text = marked.replace("^", "");
        due("parse of '" + text + "'", parse(new DeliveryRound(), text), error(offset, kind));
    }

    static void accepted(String text, int houses) {
        due("parse of '" + text + "'", parse(new DeliveryRound(), text), houses);
    }
}
