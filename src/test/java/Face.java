import java.util.NoSuchElementException;

/** Calls of the face by their names, so that a run can be told as data. */
final class Face {
    /** What led answers here when it throws, as it should. */
    static final int THROWN = Integer.MIN_VALUE;

    /** Every call that can be made on an object, and how many numbers it takes. */
    static final String[] CALLS = {"feed 5", "room 1", "fault 0", "where 0", "bench 2", "person 2", "may 2", "content 0",
        "warmest 1", "rents 0", "heatFor 0", "packed 0", "packedAt 1", "cheapest 0", "packedWithout 1", "bestSeat 0",
        "coal 2", "couples 0", "spouse 1", "mayMarry 1", "fed 0", "eats 2", "left 1", "trains 0", "trainAt 1", "comes 1",
        "surely 1", "listen 0", "listenLeaves 0", "drawn 1", "believers 1", "settled 0", "won 0", "prophet 0", "shout 4",
        "rests 1", "rest 1", "years 2", "yearsAt 3", "happy 3", "sit 2", "stand 1", "preach 2", "round 0", "day 0",
        "undo 0", "image 0", "back 1", "led 1", "size 1", "trouble 0"};

    private Face() {
    }

    static int call(BenchColony x, String name, int... a) {
        return switch (name) {
            case "feed" -> x.feed(a[0], a[1], a[2], a[3], a[4]);
            case "room" -> x.room(a[0]);
            case "fault" -> x.fault();
            case "where" -> x.where();
            case "bench" -> x.bench(a[0], a[1]);
            case "person" -> x.person(a[0], a[1]);
            case "may" -> x.may(a[0], a[1]);
            case "content" -> x.content();
            case "warmest" -> x.warmest(a[0]);
            case "rents" -> x.rents();
            case "heatFor" -> x.heatFor();
            case "packed" -> x.packed();
            case "packedAt" -> x.packedAt(a[0]);
            case "cheapest" -> x.cheapest();
            case "packedWithout" -> x.packedWithout(a[0]);
            case "bestSeat" -> x.bestSeat();
            case "coal" -> x.coal(a[0], a[1]);
            case "couples" -> x.couples();
            case "spouse" -> x.spouse(a[0]);
            case "mayMarry" -> x.mayMarry(a[0]);
            case "fed" -> x.fed();
            case "eats" -> x.eats(a[0], a[1]);
            case "left" -> x.left(a[0]);
            default -> later(x, name, a);
        };
    }

    private static int later(BenchColony x, String name, int... a) {
        return switch (name) {
            case "trains" -> x.trains();
            case "trainAt" -> x.trainAt(a[0]);
            case "comes" -> x.comes(a[0]);
            case "surely" -> x.surely(a[0]);
            case "listen" -> x.listen();
            case "listenLeaves" -> x.listenLeaves();
            case "drawn" -> x.drawn(a[0]);
            case "believers" -> x.believers(a[0]);
            case "settled" -> x.settled();
            case "won" -> x.won();
            case "prophet" -> x.prophet();
            case "shout" -> x.shout(a[0], a[1], a[2], a[3] == 1);
            case "rests" -> x.rests(a[0]);
            case "rest" -> x.rest(a[0]);
            case "years" -> x.years(a[0], a[1]);
            case "yearsAt" -> x.yearsAt(a[0], a[1], a[2]);
            case "happy" -> x.happy(a[0], a[1], a[2]);
            case "sit" -> x.sit(a[0], a[1]) ? 1 : 0;
            case "stand" -> x.stand(a[0]) ? 1 : 0;
            case "preach" -> x.preach(a[0], a[1]) ? 1 : 0;
            case "round" -> x.round();
            case "day" -> x.day();
            case "undo" -> x.undo() ? 1 : 0;
            case "image" -> x.image();
            case "back" -> x.back(a[0]) ? 1 : 0;
            case "led" -> led(x, a[0]);
            case "size" -> x.size(a[0]);
            case "trouble" -> x.trouble();
            default -> throw new IllegalArgumentException(name);
        };
    }

    private static int led(BenchColony x, int i) {
        try {
            return x.led(i);
        } catch (NoSuchElementException e) {
            return THROWN;
        }
    }

    /** The five numbers of the twenty bytes of a text from a place on, with blanks behind its end. */
    static int[] twenty(String text, int from) {
        int[] numbers = new int[5];
        for (int i = 0; i < 20; i++) {
            int sign = from + i < text.length() ? text.charAt(from + i) : ' ';
            numbers[i / 4] = numbers[i / 4] << 8 | sign & 255;
        }
        return numbers;
    }

    static void feed(BenchColony x, String text) {
        for (int from = 0; from < text.length(); from += 20) {
            call(x, "feed", twenty(text, from));
        }
    }
}
