import java.util.function.Supplier;
import java.util.function.ToIntFunction;

/**
 * What an object answers to every question: now, after some undos, after a restore or after a parse. Two objects with
 * the same history must answer the same; so a call that changes nothing is seen to change nothing.
 */
final class Picture {
    private static final int[] MINUTES = {0, 9, 10, 99, 100, 319, 320, 399, 400, 899, 900, 999, 1000, 1439};
    private static final int MOST_UNDOS = 13;
    private static final int RESTORE_0 = MOST_UNDOS + 1;
    private static final int RESTORE_1 = MOST_UNDOS + 2;
    private static final int PARSE = MOST_UNDOS + 3;

    private final StringBuilder answers = new StringBuilder();

    private Picture() {
    }

    /** The call, on an object of that story, must answer as due and leave everything as it was. */
    static void unchanged(String call, Supplier<DeliveryRound> story, ToIntFunction<DeliveryRound> act, int want) {
        for (int way = 0; way <= PARSE; way++) {
            DeliveryRound plain = story.get();
            DeliveryRound other = story.get();
            Check.due(call, act.applyAsInt(other), want);
            boolean same = later(way, plain).equals(later(way, other));
            Check.due(call + " leaves all as it was, seen by way " + way, same, true);
        }
    }

    private static String later(int way, DeliveryRound r) {
        Picture picture = new Picture();
        for (int undos = 0; undos < way && way <= MOST_UNDOS; undos++) {
            picture.add(r.undo());
        }
        if (way == RESTORE_0 || way == RESTORE_1) {
            picture.add(r.restoreSnapshot(way - RESTORE_0) ? 1 : 0);
        }
        if (way == PARSE) {
            picture.add(r.parse(20));
        }
        picture.addAll(r);
        return picture.answers.toString();
    }

    private void add(int answer) {
        answers.append(answer).append(' ');
    }

    private void addAll(DeliveryRound r) {
        int[] plain = {r.nodeCount(), r.streetCount(), r.houseCount(), r.capacity(), r.day(), r.totalDemand(),
            r.stops(), r.fastestFinish(), r.bottlesOut(), r.finish(), r.visitCount(), r.reloads(), r.previewFinish(0),
            r.previewFinish(1), r.previewFinish(2)};
        for (int answer : plain) {
            add(answer);
        }
        for (int visit = 0; visit < r.visitCount(); visit++) {
            add(r.visitHouse(visit));
            add(r.visitMinute(visit));
            add(r.visitReturned(visit));
        }
        addNetwork(r);
        // The keeps come last: they are told only by the call that changes them.
        for (int house = 0; house < r.houseCount(); house++) {
            addHouse(r, house);
        }
    }

    private void addNetwork(DeliveryRound r) {
        for (int street = 0; street < r.streetCount(); street++) {
            for (int minute : MINUTES) {
                add(r.isOpen(street, minute));
            }
        }
        for (int from = 0; from < r.nodeCount(); from++) {
            add(r.horseStop(from));
            add(r.fastestStop(from));
            for (int to = 0; to < r.nodeCount(); to++) {
                add(r.habit(from, to));
                add(r.arrival(from, to, 300));
            }
        }
    }

    private void addHouse(DeliveryRound r, int house) {
        int[] plain = {r.houseNode(house), r.demand(house), r.bottlesAt(house), r.delivered(house), r.returned(house),
            r.broken(house), r.bill(house)};
        for (int answer : plain) {
            add(answer);
        }
        for (int weekday = 0; weekday < 7; weekday++) {
            add(r.order(house, weekday));
        }
        add(r.setKeep(house, 0));
    }
}
