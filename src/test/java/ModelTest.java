import java.util.SplittableRandom;

/** Runs of calls, drawn from fixed seeds, on the class and on the model side by side. */
public final class ModelTest {
    private static final int RUNS = 5000;
    private final SplittableRandom draw;
    private final DeliveryRound round = new DeliveryRound();
    private final Model model = new Model();
    private final StringBuilder story = new StringBuilder();

    private ModelTest(long seed) {
        draw = new SplittableRandom(seed);
        story.append("seed ").append(seed);
    }

    public static void main(String[] args) {
        int runs = args.length > 0 ? Integer.parseInt(args[0]) : RUNS;
        for (int seed = 0; seed < runs; seed++) {
            ModelTest test = new ModelTest(seed);
            test.run();
            if (Check.wrong() > 0) {
                System.out.println(test.story);
                break;
            }
        }
        Check.end();
    }

    /** From low to high, both included. */
    private int from(int low, int high) {
        return draw.nextInt(low, high + 1);
    }

    private void due(String call, int got, int want) {
        Check.due(call, got, want);
    }

    private void due(String call, boolean got, boolean want) {
        Check.due(call, got, want);
    }

    private void run() {
        int texts = from(1, 3);
        for (int i = 0; i < texts; i++) {
            String text = text();
            if (from(0, 2) == 0) {
                text = spoil(text);
            }
            read(text);
            int steps = from(0, 60);
            for (int step = 0; step < steps && Check.wrong() == 0; step++) {
                change();
                ask();
            }
        }
    }

    private void read(String text) {
        story.append("\n").append(text);
        String cut = text.length() > 900 ? text.substring(0, 900) : text;
        byte[] bytes = Check.bytes(cut);
        for (int at = 0; at < bytes.length; at += 20) {
            int[] w = new int[5];
            for (int k = 0; k < 5; k++) {
                w[k] = Check.four(bytes, at + 4 * k);
            }
            due("append", round.append(w[0], w[1], w[2], w[3], w[4]), model.append(w));
        }
        if (from(0, 5) == 0) {
            int length = from(-1, 910);
            due("parse " + length, round.parse(length), model.parse(length));
            story.append("\nparsed to ").append(length);
        } else {
            due("parse", round.parse(cut.length()), model.parse(cut.length()));
        }
        askAll();
    }

    private String text() {
        StringBuilder text = new StringBuilder();
        boolean small = from(0, 1) == 0;
        // A small cart, large orders and houses that keep much: reloads and little room for empty bottles.
        boolean tight = from(0, 2) == 0;
        int nodes = from(2, from(0, 9) == 0 ? 10 : 8);
        int start = from(0, 3) == 0 ? from(0, 1439) : 300;
        text.append("nodes ").append(nodes).append(";\n");
        if (tight) {
            text.append("cart ").append(from(10, 12)).append(";");
        } else if (from(0, 3) > 0) {
            text.append("cart ").append(from(0, 1) == 0 ? from(10, 20) : from(10, 100)).append(";");
        }
        if (start != 300) {
            text.append("start ").append(start).append(" ;");
        }
        if (from(0, 1) == 0) {
            text.append("price ").append(from(0, 99)).append(' ').append(from(0, 99)).append(";");
        }
        streets(text, nodes, start, small);
        int houses = from(0, 12);
        for (int i = 0; i < houses; i++) {
            text.append("house ").append(from(1, nodes - 1)).append(' ').append(from(0, small ? 1 : 9)).append(' ')
                    .append(from(0, tight ? 9 : 3));
            for (int k = 0; k < 7; k++) {
                text.append(' ').append(from(0, 2) == 0 ? 0 : from(0, small && !tight ? 3 : 9));
            }
            text.append(';');
        }
        return text.toString();
    }

    private void streets(StringBuilder text, int nodes, int start, boolean small) {
        int gates = from(0, 3);
        boolean[][] joined = new boolean[nodes][nodes];
        int streets = 0;
        for (int tries = from(1, 30); tries > 0 && streets < 18; tries--) {
            // The first streets make most towns hang together.
            int a = streets + 1 < nodes && from(0, 3) > 0 ? streets + 1 : from(0, nodes - 1);
            int b = from(0, a == streets + 1 ? streets : nodes - 1);
            if (a == b || joined[a][b]) {
                continue;
            }
            joined[a][b] = true;
            joined[b][a] = true;
            streets++;
            text.append("street ").append(a).append(' ').append(b).append(' ').append(from(1, small ? 4 : 30));
            if (from(0, 3) < gates) {
                int[] gate = gate(start);
                text.append(" gate ").append(gate[0]).append(' ').append(gate[1]);
            }
            text.append(";");
        }
    }

    /** Mostly near the minutes at which the cart comes by. */
    private int[] gate(int start) {
        int first = Math.max(0, Math.min(1439, start + from(-60, 90)));
        int last = Math.max(first + 1, Math.min(1440, start + from(0, 200)));
        return new int[] {first, last};
    }

    private String spoil(String text) {
        String[] bits = {"0", "1", " ", ";", "nodes", "cart", "gate", "street", "house", "9", "A", "\u0000", "\u00e9",
            "\n", "nodes 3;", "cart 20;", "start 0;", "price 1 1;", "street 0 1 1;", "house 1 0 0 1 1 1 1 1 1 1;",
            "12345", "abcdefg", "start", "price", " gate 1440 1441", " gate 5 5"};
        StringBuilder spoiled = new StringBuilder(text);
        for (int i = from(1, 2); i > 0; i--) {
            int at = from(0, spoiled.length());
            if (from(0, 1) == 0) {
                int semicolon = spoiled.indexOf(";", at);
                at = semicolon < 0 ? at : semicolon + 1;
            }
            if (from(0, 2) == 0) {
                spoiled.delete(at, Math.min(spoiled.length(), at + from(1, 6)));
            } else {
                spoiled.insert(at, bits[from(0, bits.length - 1)]);
            }
        }
        return spoiled.toString();
    }

    private int house() {
        return from(-1, Math.max(0, round.houseCount()));
    }

    private int street() {
        return from(-1, Math.max(0, round.streetCount()));
    }

    private void change() {
        int what = from(0, 11);
        story.append(", ").append(what);
        switch (what) {
            case 0, 1, 2, 3 -> {
                int choice = from(-1, 9);
                choice = choice > 3 ? choice % 3 : choice;
                due("previewFinish " + choice, round.previewFinish(choice), model.previewFinish(choice));
                due("carryOut " + choice, round.carryOut(choice), model.carryOut(choice));
            }
            case 4 -> {
                int h = house();
                boolean skip = from(0, 3) > 0;
                due("setSkipped " + h, round.setSkipped(h, skip), model.setSkipped(h, skip));
            }
            case 5 -> {
                int h = house();
                int count = from(0, 6);
                due("breakBottles " + h, round.breakBottles(h, count), model.breakBottles(h, count));
            }
            case 6 -> {
                int h = house();
                int weekday = from(-1, 7);
                int order = from(-1, 10);
                due("setOrder " + h, round.setOrder(h, weekday, order), model.setOrder(h, weekday, order));
            }
            case 7 -> {
                int h = house();
                int keep = from(-1, 10);
                due("setKeep " + h, round.setKeep(h, keep), model.setKeep(h, keep));
            }
            case 8 -> {
                int s = street();
                int[] gate = from(0, 3) == 0 ? new int[] {from(-2, 1441), from(-2, 1442)} : gate(model.town.start);
                due("setGate " + s, round.setGate(s, gate[0], gate[1]), model.setGate(s, gate[0], gate[1]));
            }
            case 9 -> {
                for (int times = from(1, from(0, 5) == 0 ? 14 : 3); times > 0; times--) {
                    due("undo", round.undo(), model.undo());
                }
            }
            case 10 -> {
                int slot = from(-1, 2);
                due("saveSnapshot " + slot, round.saveSnapshot(slot), model.saveSnapshot(slot));
            }
            default -> {
                int slot = from(-1, 2);
                due("restoreSnapshot " + slot, round.restoreSnapshot(slot), model.restoreSnapshot(slot));
            }
        }
    }

    private void ask() {
        if (from(0, 2) == 0) {
            askAll();
        }
        int a = from(-1, round.nodeCount());
        int b = from(-1, round.nodeCount());
        int minute = from(0, 2) == 0 ? from(-1, 10000) : from(250, 500);
        due("arrival " + a + " " + b + " " + minute, round.arrival(a, b, minute), model.arrival(a, b, minute));
        int s = street();
        due("isOpen " + s + " " + minute, round.isOpen(s, minute), model.isOpen(s, minute));
    }

    private void askAll() {
        due("nodeCount", round.nodeCount(), model.town.nodes);
        due("streetCount", round.streetCount(), model.town.streets.size());
        due("houseCount", round.houseCount(), model.town.houses.size());
        due("capacity", round.capacity(), model.town.capacity);
        due("day", round.day(), model.data.day);
        due("totalDemand", round.totalDemand(), model.totalDemand());
        due("stops", round.stops(), model.stops());
        due("bottlesOut", round.bottlesOut(), model.bottlesOut());
        due("finish", round.finish(), model.finish());
        due("visitCount", round.visitCount(), model.visitCount());
        due("reloads", round.reloads(), model.reloads());
        for (int h = -1; h <= round.houseCount(); h++) {
            askHouse(h);
        }
        for (int v = -1; v <= round.visitCount(); v++) {
            due("visitHouse " + v, round.visitHouse(v), model.visit(v, 0));
            due("visitMinute " + v, round.visitMinute(v), model.visit(v, 1));
            due("visitReturned " + v, round.visitReturned(v), model.visit(v, 2));
        }
        for (int a = -1; a <= round.nodeCount(); a++) {
            for (int b = -1; b <= round.nodeCount(); b++) {
                due("habit " + a + " " + b, round.habit(a, b), model.habit(a, b));
            }
        }
        if (from(0, 1) == 0) {
            due("fastestFinish first", round.fastestFinish(), model.fastestFinish());
        }
        java.util.List<Integer> fastest = model.fastest();
        for (int k = 0; k <= model.stopList().size(); k++) {
            int want = fastest == null || k >= fastest.size() ? -2 : fastest.get(k);
            due("fastestStop " + k, round.fastestStop(k), want);
        }
        due("fastestFinish", round.fastestFinish(), model.fastestFinish());
        for (int k = -1; k <= model.stopList().size(); k++) {
            due("horseStop " + k, round.horseStop(k), model.horseStop(k));
        }
        for (int choice = -1; choice <= 3; choice++) {
            due("previewFinish " + choice, round.previewFinish(choice), model.previewFinish(choice));
        }
    }

    private void askHouse(int h) {
        due("houseNode " + h, round.houseNode(h), model.houseNode(h));
        due("demand " + h, round.demand(h), model.demand(h));
        due("bottlesAt " + h, round.bottlesAt(h), model.ofHouse(model.data.bottles, h));
        due("delivered " + h, round.delivered(h), model.ofHouse(model.data.delivered, h));
        due("returned " + h, round.returned(h), model.ofHouse(model.data.returned, h));
        due("broken " + h, round.broken(h), model.ofHouse(model.data.broken, h));
        due("bill " + h, round.bill(h), model.bill(h));
        for (int k = -1; k <= 7; k++) {
            due("order " + h + " " + k, round.order(h, k), model.order(h, k));
        }
    }
}
