import java.util.function.ToIntFunction;

/** The text: each boundary that the description, or one of the promises 1 to 3, names. */
final class TextBoundaries {
    private static final int INVALID = DeliveryRound.INVALID;
    private static final int SYNTAX = 1;
    private static final int RANGE = 2;
    private static final int REPEATED = 3;
    private static final int TOO_MANY = 4;
    private static final int SPACES = 0x20202020;
    private static final String HOUSE = "house 1 0 0 1 1 1 1 1 1 1;";
    private static final String[] STATEMENTS = {"nodes 3 ;", "cart 20 ;", "start 7 ;", "price 1 2 ;", "street 0 1 5 ;",
        "street 0 1 5 gate 7 9 ;", "house 1 0 0 1 2 3 4 5 6 7 ;"};

    private TextBoundaries() {
    }

    static void check() {
        bufferIsFull();
        whiteBytes();
        whiteSpaceBetweenTokens();
        lengthOfTokens();
        illegalTokens();
        rounds();
        itemsOfStatements();
        itemsAreNumbers();
        numbering();
        mostStreetsAndHouses();
        onceAndInOrder();
        rangesOfSettings();
        rangesOfStreets();
        rangesOfHouses();
        lowestOffset();
        lowestKind();
        syntaxErrors();
        textEndsEarly();
        rangeErrors();
        repeatedErrors();
        tooManyErrors();
        newObject();
        append();
        parseLength();
        parseAnswer();
        bufferAfterParse();
    }

    private static void due(String call, long got, long want) {
        Check.due(call, got, want);
    }

    private static void says(int section, String words) {
        Check.says(section, words);
    }

    private static void refused(String marked, int kind) {
        Check.refused(marked, kind);
    }

    private static void accepted(String text) {
        Check.accepted(text, text.split("house", -1).length - 1);
    }

    private static String spaces(int count) {
        return " ".repeat(count);
    }

    private static void bufferIsFull() {
        says(0, "The input buffer holds at most 900 bytes.");
        DeliveryRound r = new DeliveryRound();
        due("parse of 900 bytes", Check.parse(r, spaces(892) + "cart 77;"), 0);
        due("capacity", r.capacity(), 77);
        refused(spaces(899) + "^?", SYNTAX);
        refused(spaces(895) + "cart ^", SYNTAX);
        due("parse of 901 bytes", Check.parse(r, spaces(901)), INVALID);
    }

    private static void whiteBytes() {
        says(0, "Bytes 32 (space) and 10 (line feed) are white space;");
        for (int sign = 0; sign < 256; sign++) {
            DeliveryRound r = new DeliveryRound();
            String text = "cart" + (char) sign + "20" + (char) sign + ";";
            due("parse with byte " + sign, Check.parse(r, text), answerForByte(sign));
        }
    }

    private static int answerForByte(int sign) {
        if (sign == 32 || sign == 10 || sign == '0') {
            return 0;
        }
        if (sign >= 'a' && sign <= 'z') {
            return Check.error(0, SYNTAX);
        }
        return Check.error(4, sign > '0' && sign <= '9' ? RANGE : SYNTAX);
    }

    private static void whiteSpaceBetweenTokens() {
        says(0, "they may stand between tokens and are otherwise ignored.");
        accepted("cart20;street0 1 5gate7 9;house1 0 0 1 1 1 1 1 1 1;");
        accepted("\n \n cart \n 20 \n ; \n ");
        accepted(" \n ");
        refused("^ca rt 20;", SYNTAX);
        refused("cart ^2 0;", RANGE);
        refused("cart 20 ^0;", SYNTAX);
        refused("street 0 1 5 ^ga te 7 9;", SYNTAX);
    }

    private static void lengthOfTokens() {
        says(0, "A token is a word (a maximal run of lower-case letters a to z, 1 to 6 letters long), "
                + "a number (a maximal run of digits, 1 to 4 digits long) or a semicolon.");
        refused("^a 20;", SYNTAX);
        refused("^z 20;", SYNTAX);
        accepted("street 0 1 5;");
        refused("^streetx 0 1 5;", SYNTAX);
        refused("cart ^2;", RANGE);
        accepted("cart 20;");
        accepted("cart 020;");
        accepted("cart 0020;");
        refused("cart ^9999;", RANGE);
        refused("cart ^00020;", SYNTAX);
        refused("cart 20^cart;", SYNTAX);
    }

    private static void illegalTokens() {
        says(0, "Any other byte, and any longer run, is an illegal token that starts at its first byte.");
        for (int sign = 0; sign < 256; sign++) {
            boolean legal = sign == 32 || sign == 10 || sign == ';' || sign >= 'a' && sign <= 'z'
                    || sign >= '0' && sign <= '9';
            if (!legal && sign != '^') {
                refused("cart 20;^" + (char) sign, SYNTAX);
                refused("nodes ^" + (char) sign + "3;", SYNTAX);
            }
        }
        due("the byte ^", Check.parse(new DeliveryRound(), "cart 20^;"), Check.error(7, SYNTAX));
        refused("^abcdefg;", SYNTAX);
        refused("street 0 1 5 ^gategate 7 9;", SYNTAX);
        refused("cart ^12345;", SYNTAX);
        refused("price 5 ^" + "0".repeat(60) + ";", SYNTAX);
    }

    private static void rounds() {
        says(0, "round     = { statement \";\" }");
        accepted("");
        accepted("cart 20;");
        accepted("cart 20;start 7;");
        refused("^;", SYNTAX);
        refused("cart 20^", SYNTAX);
        refused("cart 20 ^start 7;", SYNTAX);
        refused("cart 20;^;", SYNTAX);
        refused("cart 20;^20;", SYNTAX);
    }

    /** The statement's tokens; the last one is the semicolon. */
    private static String[] tokens(String statement) {
        return statement.split(" ");
    }

    private static String marked(String[] tokens, int place, String instead) {
        StringBuilder text = new StringBuilder();
        for (int i = 0; i < tokens.length; i++) {
            text.append(i == place ? "^" + instead : tokens[i]).append(i + 1 < tokens.length ? " " : "");
        }
        return text.toString();
    }

    private static void itemsOfStatements() {
        says(0, "statement = \"nodes\" count | \"cart\" capacity | \"start\" minute | \"price\" price deposit");
        says(0, "| \"street\" a b length [ \"gate\" from to ]");
        says(0, "| \"house\" node walk keep order order order order order order order");
        for (String statement : STATEMENTS) {
            accepted(statement);
            String[] tokens = tokens(statement);
            // An item more, and the semicolon one item too early.
            refused(marked(tokens, tokens.length - 1, "1 ;"), SYNTAX);
            for (int i = 1; i < tokens.length - 1; i++) {
                if (!tokens[i].equals("gate")) {
                    refused(marked(tokens, i, ";"), SYNTAX);
                }
            }
        }
        refused("street 0 1 5 gate 7 9 ^gate 7 9;", SYNTAX);
        refused("street 0 1 ^gate 7 9;", SYNTAX);
        refused("^gate 7 9;", SYNTAX);
    }

    private static void itemsAreNumbers() {
        says(0, "All unquoted items are numbers.");
        for (String statement : STATEMENTS) {
            String[] tokens = tokens(statement);
            for (int i = 1; i < tokens.length - 1; i++) {
                refused(marked(tokens, i, tokens[i].equals("gate") ? "7" : "gate"), SYNTAX);
            }
        }
    }

    private static void numbering() {
        says(0, "Streets and houses are numbered from 0, each in the order of the text.");
        DeliveryRound r = Check.round("nodes 4;house 3 0 0 1 1 1 1 1 1 1;street 2 3 7;house 1 0 0 2 2 2 2 2 2 2;"
                + "street 1 0 5 gate 8 9;house 2 0 0 3 3 3 3 3 3 3;");
        due("houseNode(0)", r.houseNode(0), 3);
        due("houseNode(1)", r.houseNode(1), 1);
        due("houseNode(2)", r.houseNode(2), 2);
        due("houseNode(3)", r.houseNode(3), INVALID);
        due("isOpen(0, 7)", r.isOpen(0, 7), 1);
        due("isOpen(1, 7)", r.isOpen(1, 7), 0);
        due("isOpen(2, 7)", r.isOpen(2, 7), INVALID);
    }

    private static String streets(int count) {
        StringBuilder text = new StringBuilder("nodes 10;");
        int made = 0;
        for (int a = 0; a < 10; a++) {
            for (int b = a + 1; b < 10 && made < count; b++) {
                text.append("street ").append(a).append(' ').append(b).append(" 9;");
                made++;
            }
        }
        return text.toString();
    }

    private static void mostStreetsAndHouses() {
        says(0, "There are at most 18 streets and 12 houses.");
        DeliveryRound r = Check.round(streets(18) + HOUSE.repeat(12));
        due("streetCount", r.streetCount(), 18);
        due("houseCount", r.houseCount(), 12);
        due("houseNode(11)", r.houseNode(11), 1);
        due("isOpen(17, 0)", r.isOpen(17, 0), 1);
        due("parse of 19 streets", Check.parse(r, streets(19)) < -2, true);
        due("parse of 13 houses", Check.parse(r, HOUSE.repeat(13)) < -2, true);
        due("streetCount", r.streetCount(), 18);
        due("houseCount", r.houseCount(), 12);
    }

    private static void due(String call, boolean got, boolean want) {
        Check.due(call, got, want);
    }

    private static void onceAndInOrder() {
        says(0, "The statements nodes, cart, start and price can each occur once;");
        String[] settings = {"nodes 3;", "cart 20;", "start 7;", "price 1 2;"};
        accepted(String.join("", settings));
        for (String first : settings) {
            for (String second : settings) {
                if (first.equals(second)) {
                    refused(first + "^" + second, REPEATED);
                } else {
                    accepted(first + second);
                    refused(first + second + "^" + first, REPEATED);
                }
            }
        }
        says(0, "nodes cannot follow a street or a house statement.");
        refused("street 0 1 5;^nodes 3;", SYNTAX);
        refused(HOUSE + "^nodes 3;", SYNTAX);
        refused(HOUSE + "cart 20;^nodes 3;", SYNTAX);
        accepted("cart 20;start 7;price 1 2;nodes 3;street 0 1 5;" + HOUSE);
        accepted("street 0 1 5;" + HOUSE + "cart 20;start 7;price 1 2;");
    }

    /** The number between the two parts: both ends of its range are accepted, and what is next to them is not. */
    private static void range(String before, String after, int low, int high) {
        accepted(before + low + after);
        accepted(before + high + after);
        refused(before + "^" + (high + 1) + after, RANGE);
        refused(before + "^9999" + after, RANGE);
        if (low > 0) {
            refused(before + "^" + (low - 1) + after, RANGE);
            refused(before + "^0" + after, RANGE);
        }
    }

    private static void of(String text, String call, ToIntFunction<DeliveryRound> question, int want) {
        due(call + " of '" + text + "'", question.applyAsInt(Check.round(text)), want);
    }

    private static void rangesOfSettings() {
        says(0, "Ranges: count 2 to 10 (2 without the statement nodes);");
        range("nodes ", ";", 2, 10);
        of("", "nodeCount", DeliveryRound::nodeCount, 2);
        of("nodes 2;", "nodeCount", DeliveryRound::nodeCount, 2);
        of("nodes 10;", "nodeCount", DeliveryRound::nodeCount, 10);
        says(0, "capacity 10 to 200 (60 without cart);");
        range("cart ", ";", 10, 200);
        of("", "capacity", DeliveryRound::capacity, 60);
        of("cart 10;", "capacity", DeliveryRound::capacity, 10);
        of("cart 200;", "capacity", DeliveryRound::capacity, 200);
        says(0, "minute 0 to 1439 (300 without start);");
        range("start ", ";", 0, 1439);
        of("", "fastestFinish", DeliveryRound::fastestFinish, 300);
        of("start 0;", "fastestFinish", DeliveryRound::fastestFinish, 0);
        of("start 1439;", "fastestFinish", DeliveryRound::fastestFinish, 1439);
        says(0, "price and deposit 0 to 99 (5 and 10 without price);");
        range("price ", " 7;", 0, 99);
        range("price 7 ", ";", 0, 99);
        String rest = "street 0 1 5;house 1 0 0 9 9 9 9 9 9 9;";
        of(rest, "bill", TextBoundaries::billWithOneBroken, 55);
        of("price 0 0;" + rest, "bill", TextBoundaries::billWithOneBroken, 0);
        of("price 99 0;" + rest, "bill", TextBoundaries::billWithOneBroken, 891);
        of("price 0 99;" + rest, "bill", TextBoundaries::billWithOneBroken, 99);
    }

    private static int billWithOneBroken(DeliveryRound r) {
        r.carryOut(DeliveryRound.BY_NUMBER);
        r.breakBottles(0, 1);
        return r.bill(0);
    }

    private static void rangesOfStreets() {
        says(0, "a and b 0 to count - 1;");
        range("nodes 10;street ", " 5 9;", 0, 9);
        range("nodes 10;street 5 ", " 9;", 0, 9);
        range("nodes 7;street ", " 5 9;", 0, 6);
        range("nodes 7;street 5 ", " 9;", 0, 6);
        accepted("street 0 1 5;");
        accepted("street 1 0 5;");
        refused("street ^2 0 5;", RANGE);
        refused("street 0 ^2 5;", RANGE);
        says(0, "length 1 to 99;");
        range("street 0 1 ", ";", 1, 99);
        of("street 0 1 1;", "arrival", r -> r.arrival(0, 1, 0), 1);
        of("street 0 1 99;", "arrival", r -> r.arrival(0, 1, 0), 99);
        says(0, "from 0 to 1439;");
        range("street 0 1 5 gate ", " 1440;", 0, 1439);
        of("street 0 1 5 gate 0 1440;", "isOpen", r -> r.isOpen(0, 0), 1);
        of("street 0 1 5 gate 1439 1440;", "isOpen", r -> r.isOpen(0, 1439), 1);
        of("street 0 1 5 gate 1439 1440;", "isOpen", r -> r.isOpen(0, 1438), 0);
        says(0, "to greater than from, at most 1440;");
        range("street 0 1 5 gate 0 ", ";", 1, 1440);
        range("street 0 1 5 gate 700 ", ";", 701, 1440);
        range("street 0 1 5 gate 1439 ", ";", 1440, 1440);
        refused("street 0 1 5 gate 700 ^700;", RANGE);
    }

    private static void rangesOfHouses() {
        says(0, "node 1 to count - 1;");
        range("nodes 10;house ", " 0 0 1 1 1 1 1 1 1;", 1, 9);
        range("nodes 7;house ", " 0 0 1 1 1 1 1 1 1;", 1, 6);
        range("house ", " 0 0 1 1 1 1 1 1 1;", 1, 1);
        says(0, "walk 0 to 50;");
        range("house 1 ", " 0 1 1 1 1 1 1 1;", 0, 50);
        of("street 0 1 5;house 1 0 0 1 1 1 1 1 1 1;", "fastestFinish", DeliveryRound::fastestFinish, 311);
        of("street 0 1 5;house 1 50 0 1 1 1 1 1 1 1;", "fastestFinish", DeliveryRound::fastestFinish, 411);
        says(0, "keep 0 to 9;");
        range("house 1 0 ", " 1 1 1 1 1 1 1;", 0, 9);
        of("house 1 0 0 1 1 1 1 1 1 1;", "setKeep", r -> r.setKeep(0, 5), 0);
        of("house 1 0 9 1 1 1 1 1 1 1;", "setKeep", r -> r.setKeep(0, 5), 9);
        says(0, "order 0 to 9.");
        for (int place = 0; place < 7; place++) {
            range("house 1 0 0" + " 1".repeat(place) + " ", " 1".repeat(6 - place) + ";", 0, 9);
        }
        says(0, "The seven orders are those of the weekdays 0 to 6.");
        DeliveryRound r = Check.round("house 1 0 9 0 9 1 8 2 7 3;");
        int[] orders = {0, 9, 1, 8, 2, 7, 3};
        for (int weekday = 0; weekday < 7; weekday++) {
            due("order(0, " + weekday + ")", r.order(0, weekday), orders[weekday]);
        }
    }

    private static void lowestOffset() {
        says(0, "The parser reports the error with the lowest byte offset;");
        refused("nodes ^1; ?", RANGE);
        refused("nodes ^? 1;", SYNTAX);
        refused("cart 20; ^cart 9;", REPEATED);
        refused("cart ^9; cart 20;", RANGE);
        refused("street 0 ^0 0;", REPEATED);
        refused("street ^2 2 5;", RANGE);
        refused("street 0 1 5 gate ^1440 5;", RANGE);
        refused(HOUSE.repeat(12) + "^house 0 ?", TOO_MANY);
        refused(HOUSE.repeat(12) + "cart ^9;" + HOUSE, RANGE);
    }

    private static void lowestKind() {
        says(0, "of several kinds at one offset the lowest:");
        // A second nodes after a street is a syntax error and a repeated statement.
        refused("nodes 3;street 0 1 5;^nodes 3;", SYNTAX);
        refused("nodes 3;" + HOUSE + "^nodes 3;", SYNTAX);
        // Above the range: not equal to a, whatever a was.
        refused("street 1 ^2 5;", RANGE);
    }

    private static void syntaxErrors() {
        says(0, "1 (syntax): an illegal token, or a token that cannot continue a round "
                + "(the word nodes after a street or a house included);");
        refused("^?", SYNTAX);
        refused("^20;", SYNTAX);
        refused("^node 3;", SYNTAX);
        refused("^nodex 3;", SYNTAX);
        refused("^xodes 3;", SYNTAX);
        refused("^gate 7 9;", SYNTAX);
        refused("cart ^cart;", SYNTAX);
        refused("cart 20 ^cart;", SYNTAX);
        refused("street 0 1 5 ^house;", SYNTAX);
        refused("street 0 1 5;^nodes", SYNTAX);
        refused(HOUSE + "^nodes", SYNTAX);
    }

    private static void textEndsEarly() {
        says(0, "if the text ends too early, the offset is the length of the text.");
        for (String statement : STATEMENTS) {
            String[] tokens = tokens(statement);
            StringBuilder text = new StringBuilder();
            for (int i = 0; i + 1 < tokens.length; i++) {
                text.append(tokens[i]);
                refused(text + "^", SYNTAX);
                refused(text + " \n ^", SYNTAX);
                text.append(' ');
            }
        }
        // The length cuts a longer run short.
        DeliveryRound r = new DeliveryRound();
        Check.feed(r, "cart 20000;");
        due("parse(9)", r.parse(9), Check.error(5, RANGE));
        Check.feed(r, "cart 20000;");
        due("parse(10)", r.parse(10), Check.error(5, SYNTAX));
        Check.feed(r, "cart 20000;");
        due("parse(7)", r.parse(7), Check.error(7, SYNTAX));
        Check.feed(r, "cart 20000;");
        due("parse(4)", r.parse(4), Check.error(4, SYNTAX));
        Check.feed(r, "cart 20000;");
        due("parse(3)", r.parse(3), Check.error(0, SYNTAX));
    }

    private static void rangeErrors() {
        says(0, "2 (range): a number that is out of its range.");
        refused("nodes ^0;", RANGE);
        refused("nodes ^11;", RANGE);
        refused("nodes ^11", RANGE);
        refused("price 99 ^100 1;", RANGE);
        refused("nodes 2;house ^2 ?", RANGE);
    }

    private static void repeatedErrors() {
        says(0, "3 (repeated): the word of a second nodes, cart, start or price statement;");
        refused("nodes 3;^nodes", REPEATED);
        refused("cart 20;^cart;", REPEATED);
        refused("start 7;^start 1440;", REPEATED);
        refused("price 1 2;^price ?", REPEATED);
        refused("cart 20;street 0 1 5;" + HOUSE + "^cart 20;", REPEATED);
        says(0, "the number b of a street if it is equal to a, or if another street joins the same two nodes.");
        refused("street 0 ^0 5;", REPEATED);
        refused("street 1 ^1 5;", REPEATED);
        refused("nodes 10;street 9 ^9 5;", REPEATED);
        refused("street 0 1 5;street 0 ^1 5;", REPEATED);
        refused("street 0 1 5;street 1 ^0 5;", REPEATED);
        refused("nodes 4;street 0 1 5;street 2 3 5;street 1 2 5;street 3 ^2 5;", REPEATED);
        accepted("nodes 4;street 0 1 5;street 1 2 5;street 2 0 5;street 3 0 5;street 3 1 5;street 2 3 5;");
    }

    private static void tooManyErrors() {
        says(0, "4 (too many): the word street of a 19th street, the word house of a 13th house.");
        refused(streets(18) + "^street 8 9 9;", TOO_MANY);
        refused(streets(18) + "^street", TOO_MANY);
        refused(streets(18) + "^street 0 0 0;", TOO_MANY);
        refused(streets(17) + "street 8 9 9;^street 7 9 9;", TOO_MANY);
        accepted(streets(17) + "street 8 9 9;");
        refused(HOUSE.repeat(12) + "^" + HOUSE, TOO_MANY);
        refused(HOUSE.repeat(12) + "^house", TOO_MANY);
        refused(HOUSE.repeat(12) + "street 0 1 5;^" + HOUSE, TOO_MANY);
        refused(streets(18) + HOUSE.repeat(12) + "^house", TOO_MANY);
    }

    private static void newObject() {
        says(1, "Creates a round with two nodes, no streets, no houses and an empty input buffer.");
        DeliveryRound r = new DeliveryRound();
        due("nodeCount", r.nodeCount(), 2);
        due("arrival(1, 1, 0)", r.arrival(1, 1, 0), 0);
        due("arrival(2, 2, 0)", r.arrival(2, 2, 0), INVALID);
        due("streetCount", r.streetCount(), 0);
        due("isOpen(0, 0)", r.isOpen(0, 0), INVALID);
        due("setGate(0, 0, 1)", r.setGate(0, 0, 1), false);
        due("houseCount", r.houseCount(), 0);
        due("houseNode(0)", r.houseNode(0), INVALID);
        due("setKeep(0, 0)", r.setKeep(0, 0), INVALID);
        due("parse(1)", r.parse(1), INVALID);
        due("parse(0)", r.parse(0), 0);
        due("append", r.append(0, 0, 0, 0, 0), 20);
    }

    private static void append() {
        says(2, "Appends twenty bytes to the input buffer: the four bytes of a, then those of b, c, d and e, "
                + "each with the most significant byte first.");
        // Each of the twenty bytes in turn is the first that is illegal; bytes above 127 are bytes like others.
        for (int place = 0; place < 20; place++) {
            for (int sign : new int[] {0, 127, 128, 255}) {
                int[] words = {SPACES, SPACES, SPACES, SPACES, SPACES};
                int shift = 24 - 8 * (place % 4);
                words[place / 4] = words[place / 4] & ~(255 << shift) | sign << shift;
                DeliveryRound r = new DeliveryRound();
                r.append(words[0], words[1], words[2], words[3], words[4]);
                due("parse with byte " + sign + " at " + place, r.parse(20), Check.error(place, SYNTAX));
            }
        }
        says(2, "Returns the new length of the buffer;");
        DeliveryRound r = new DeliveryRound();
        for (int times = 1; times <= 45; times++) {
            due("append", r.append(SPACES, SPACES, SPACES, SPACES, times == 45 ? 0x20203f20 : SPACES), 20 * times);
        }
        says(2, "INVALID, with nothing appended, if the buffer would have more than 900 bytes.");
        for (int times = 0; times < 3; times++) {
            due("append", r.append(-1, -1, -1, -1, -1), INVALID);
        }
        due("parse(901)", r.parse(901), INVALID);
        due("parse(920)", r.parse(920), INVALID);
        due("parse(900)", r.parse(900), Check.error(898, SYNTAX));
    }

    private static void parseLength() {
        says(3, "Parses the first length bytes of the input buffer as a round and replaces the current one by it.");
        DeliveryRound r = Check.round("nodes 9;cart 99;street 7 8 5;" + HOUSE);
        Check.feed(r, "cart 20; nodes 5 ; ?");
        due("parse(18)", r.parse(18), 0);
        due("nodeCount", r.nodeCount(), 5);
        due("capacity", r.capacity(), 20);
        due("streetCount", r.streetCount(), 0);
        due("houseCount", r.houseCount(), 0);
        says(3, "`length`: number of bytes, 0 to the length of the buffer;");
        Check.feed(r, "cart 21;           ;");
        due("parse(-1)", r.parse(-1), INVALID);
        due("parse(21)", r.parse(21), INVALID);
        due("parse(20)", r.parse(20), Check.error(19, SYNTAX));
        Check.feed(r, "cart 21;           ;");
        due("parse(19)", r.parse(19), 0);
        due("capacity", r.capacity(), 21);
        says(3, "0 gives the round without streets and houses");
        Check.parse(r, "nodes 9;cart 99;start 5;street 7 8 5;" + HOUSE);
        Check.feed(r, "?");
        due("parse(0)", r.parse(0), 0);
        due("nodeCount", r.nodeCount(), 2);
        due("streetCount", r.streetCount(), 0);
        due("houseCount", r.houseCount(), 0);
        due("capacity", r.capacity(), 60);
        due("fastestFinish", r.fastestFinish(), 300);
    }

    private static void parseAnswer() {
        says(3, "Returns the number of houses;");
        accepted("");
        accepted("street 0 1 5;");
        accepted(HOUSE);
        accepted(HOUSE.repeat(12));
        says(3, "INVALID if length is out of range, and then the buffer stays as it is;");
        DeliveryRound r = Check.round("cart 99;");
        Check.feed(r, "cart 20;           ;");
        for (int length : new int[] {-1, Integer.MIN_VALUE, 21, 40, 900, 901, Integer.MAX_VALUE}) {
            due("parse(" + length + ")", r.parse(length), INVALID);
        }
        due("capacity", r.capacity(), 99);
        due("append", r.append(SPACES, SPACES, SPACES, SPACES, SPACES), 40);
        due("parse(19)", r.parse(19), 0);
        due("capacity", r.capacity(), 20);
        says(3, "-2 - (8 * offset + kind) for a syntax error.");
        due("offset 0, kind 1", Check.parse(r, "?"), -3);
        due("offset 6, kind 2", Check.parse(r, "nodes 1;"), -52);
        due("offset 9, kind 3", Check.parse(r, "street 0 0 5;"), -77);
        due("offset 312, kind 4", Check.parse(r, HOUSE.repeat(13)), -2502);
        due("offset 900, kind 1", Check.parse(r, spaces(896) + "cart"), -7203);
    }

    private static void bufferAfterParse() {
        says(3, "After a success or a syntax error the buffer is empty.");
        DeliveryRound r = new DeliveryRound();
        Check.feed(r, spaces(900));
        due("parse(0)", r.parse(0), 0);
        due("parse(1)", r.parse(1), INVALID);
        due("append", r.append(SPACES, SPACES, SPACES, SPACES, SPACES), 20);
        due("parse(20)", r.parse(20), 0);
        due("append", r.append(SPACES, SPACES, SPACES, SPACES, 0), 20);
        due("parse(20)", r.parse(20), Check.error(16, SYNTAX));
        due("parse(1)", r.parse(1), INVALID);
        due("append", r.append(SPACES, SPACES, SPACES, SPACES, SPACES), 20);
        due("parse(20)", r.parse(20), 0);
    }
}
