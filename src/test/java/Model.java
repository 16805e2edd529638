import java.util.ArrayList;
import java.util.HashMap;
import java.util.List;
import java.util.Map;
import java.util.TreeSet;
import java.util.regex.Matcher;
import java.util.regex.Pattern;

/**
 * The document told a second time, as plainly and slowly as can be (every row of seats is tried, every set of couples,
 * every train), to hold the class against. It shares no code with the class.
 */
final class Model {
    record Bench(String name, int sort, int x, int y, int seats, int rent) { }

    record Person(String name, int kind, String town, int cold) { }

    record Pair(int a, int b) { }

    record Token(String text, int place) { }

    static final class Told {
        int wide;
        int tall;
        int stoveX;
        int stoveY;
        int heat;
        final List<Bench> benches = new ArrayList<>();
        final List<Person> people = new ArrayList<>();
        final List<Pair> kin = new ArrayList<>();
        final Map<Pair, Integer> heeds = new HashMap<>();
        final TreeSet<Integer> rumbles = new TreeSet<>();
        final TreeSet<Integer> quiets = new TreeSet<>();
        State start = new State(new ArrayList<>(), new ArrayList<>(), 0, 0);
        boolean hasRoom;
    }

    record State(List<Integer> seats, List<Integer> beliefs, int stock, int day) {
        State copy() {
            return new State(new ArrayList<>(seats), new ArrayList<>(beliefs), stock, day);
        }
    }

    static final class Fault extends Exception {
        private static final long serialVersionUID = 1L;
        final int number;
        final int place;

        Fault(int number, int place) {
            this.number = number;
            this.place = place;
        }
    }

    private StringBuilder tape = new StringBuilder();
    private Told room;
    private State now;
    private final List<State> undos = new ArrayList<>();
    private final List<State> images = new ArrayList<>();
    private int trouble;
    private int fault;
    private int place;
    private final Map<String, int[]> packings = new HashMap<>();

    // ---- the text

    int feed(int... numbers) {
        if (tape.length() + 20 > 1000) {
            return -1;
        }
        for (int number : numbers) {
            for (int i = 3; i >= 0; i--) {
                tape.append((char) (number >>> 8 * i & 255));
            }
        }
        return tape.length();
    }

    int room(int n) {
        if (n < 0 || n > tape.length()) {
            return no(2);
        }
        String text = tape.substring(0, n);
        tape = new StringBuilder();
        try {
            Told told = new Parser(text).parse();
            room = told;
            now = told.start.copy();
            undos.clear();
            images.clear();
            packings.clear();
            fault = 0;
            return yes(told.benches.size());
        } catch (Fault f) {
            fault = f.number;
            place = f.place;
            return no(4);
        }
    }

    static final class Parser {
        private static final List<String> LINES = List.of("room", "bench", "person", "kin", "heeds", "believes",
                "denies", "rumble", "quiet");
        private final List<Token> tokens = new ArrayList<>();
        private final Told told = new Told();
        private int at;

        Parser(String text) {
            Matcher m = Pattern.compile("[a-z]+|[0-9]+|[^ ]", Pattern.DOTALL).matcher(text);
            while (m.find()) {
                tokens.add(new Token(m.group(), m.start()));
            }
            tokens.add(new Token("", text.length()));
        }

        private Token here() {
            return tokens.get(at);
        }

        private Fault fault(int number) {
            return new Fault(number, here().place());
        }

        private boolean isWord() {
            return here().text().matches("[a-z]{1,8}");
        }

        private void need(boolean good, int number) throws Fault {
            if (!good) {
                throw fault(number);
            }
        }

        private void word(String text) throws Fault {
            need(here().text().equals(text), 1);
            at++;
        }

        private int whole(int least, int most) throws Fault {
            need(here().text().matches("[0-9]{1,3}"), 1);
            int value = Integer.parseInt(here().text());
            need(value >= least && value <= most, 4);
            at++;
            return value;
        }

        private int oneOf(String... words) throws Fault {
            int i = List.of(words).indexOf(here().text());
            need(i >= 0, 1);
            at++;
            return i;
        }

        private void needName() throws Fault {
            need(isWord() && !LINES.contains(here().text()) && !here().text().equals("on"), 1);
        }

        private int benchOf(String name) {
            for (int i = 0; i < told.benches.size(); i++) {
                if (told.benches.get(i).name().equals(name)) {
                    return i;
                }
            }
            return -1;
        }

        private int personOf(String name) {
            for (int i = 0; i < told.people.size(); i++) {
                if (told.people.get(i).name().equals(name)) {
                    return i;
                }
            }
            return -1;
        }

        private String newName() throws Fault {
            needName();
            String name = here().text();
            need(benchOf(name) < 0 && personOf(name) < 0, 3);
            at++;
            return name;
        }

        private int person() throws Fault {
            needName();
            int p = personOf(here().text());
            need(p >= 0, 2);
            return p;
        }

        Told parse() throws Fault {
            line();
            while (here().text().equals(";")) {
                at++;
                line();
            }
            need(here().text().isEmpty(), 1);
            need(!told.benches.isEmpty(), 6);
            return told;
        }

        private void line() throws Fault {
            int sort = LINES.indexOf(here().text());
            need(sort >= 0, 1);
            need(sort > 0 || !told.hasRoom, 3);
            int hours = told.rumbles.size() + told.quiets.size();
            int[] have = {0, told.benches.size(), told.people.size(), told.kin.size(), told.heeds.size(), 0, 0,
                hours, hours};
            int[] most = {1, 6, 7, 6, 9, 1, 1, 8, 8};
            need(have[sort] < most[sort], 5);
            need(sort == 0 || told.hasRoom, 6);
            at++;
            switch (sort) {
                case 0 -> roomLine();
                case 1 -> benchLine();
                case 2 -> personLine();
                case 3 -> kinLine();
                case 4 -> heedsLine();
                case 5, 6 -> beliefLine(sort == 5 ? 1 : -1);
                default -> hourLine(sort == 7);
            }
        }

        private void roomLine() throws Fault {
            word("wide");
            told.wide = whole(1, 9);
            word("tall");
            told.tall = whole(1, 9);
            word("stove");
            told.stoveX = whole(0, told.wide - 1);
            told.stoveY = whole(0, told.tall - 1);
            word("heat");
            told.heat = whole(1, 60);
            word("stock");
            told.start = new State(new ArrayList<>(), new ArrayList<>(), whole(0, 200), 0);
            told.hasRoom = true;
        }

        private void benchLine() throws Fault {
            String name = newName();
            int sort = oneOf("open", "upper", "island");
            word("at");
            int x = whole(0, told.wide - 1);
            int y = whole(0, told.tall - 1);
            at--;
            need(x != told.stoveX || y != told.stoveY, 7);
            need(told.benches.stream().noneMatch(b -> b.x() == x && b.y() == y), 7);
            at++;
            word("seats");
            int seats = whole(1, 3);
            word("rent");
            told.benches.add(new Bench(name, sort, x, y, seats, whole(0, 30)));
        }

        private void personLine() throws Fault {
            String name = newName();
            int kind = oneOf("third", "first", "lady", "child");
            word("for");
            need(isWord(), 1);
            String town = here().text();
            at++;
            word("cold");
            told.people.add(new Person(name, kind, town, whole(0, 60)));
            int seat = -2;
            if (here().text().equals("on")) {
                at++;
                needName();
                seat = benchOf(here().text());
                need(seat >= 0, 2);
                Bench bench = told.benches.get(seat);
                int b = seat;
                need(mayBe(kind, bench.sort()), 7);
                need(told.start.seats().stream().filter(s -> s == b).count() < bench.seats(), 7);
                at++;
            }
            told.start.seats().add(seat);
            told.start.beliefs().add(0);
        }

        private void kinLine() throws Fault {
            int a = person();
            at++;
            int b = person();
            need(a != b && !told.kin.contains(new Pair(a, b)) && !told.kin.contains(new Pair(b, a)), 3);
            told.kin.add(new Pair(a, b));
            at++;
        }

        private void heedsLine() throws Fault {
            int a = person();
            at++;
            int b = person();
            need(a != b && !told.heeds.containsKey(new Pair(a, b)), 3);
            at++;
            word("weight");
            told.heeds.put(new Pair(a, b), whole(1, 9));
        }

        private void beliefLine(int belief) throws Fault {
            int p = person();
            need(told.start.beliefs().get(p) == 0, 3);
            told.start.beliefs().set(p, belief);
            at++;
        }

        private void hourLine(boolean rumble) throws Fault {
            int hour = whole(0, 99);
            at--;
            need(!told.rumbles.contains(hour) && !told.quiets.contains(hour), 3);
            at++;
            (rumble ? told.rumbles : told.quiets).add(hour);
        }
    }

    static boolean mayBe(int kind, int sort) {
        return switch (kind) {
            case 0 -> sort == 0;
            case 1 -> sort == 0 || sort == 1;
            case 2 -> sort == 0 || sort == 2;
            default -> true;
        };
    }

    // ---- one call, by its name

    private int yes(int answer) {
        trouble = 0;
        return answer;
    }

    private int no(int number) {
        trouble = number;
        return -1;
    }

    private int no(int number, int answer) {
        trouble = number;
        return answer;
    }

    private boolean isPerson(int p) {
        return room != null && p >= 0 && p < room.people.size();
    }

    private boolean isBench(int b) {
        return room != null && b >= 0 && b < room.benches.size();
    }

    /** Answers as the face does; a boolean is 1 or 0; Integer.MIN_VALUE stands for NoSuchElementException. */
    int call(String name, int... a) {
        return switch (name) {
            case "feed" -> feed(a);
            case "room" -> room(a[0]);
            case "fault" -> fault;
            case "where" -> trouble == 4 ? place : -1;
            case "trouble" -> trouble;
            case "size" -> size(a[0]);
            case "led" -> led(a[0]);
            case "undo" -> undo();
            case "back" -> back(a[0]);
            case "bench" -> isBench(a[0]) && a[1] >= 0 && a[1] <= 6 ? yes(bench(a[0], a[1])) : no(1);
            case "person" -> isPerson(a[0]) && a[1] >= 0 && a[1] <= 5 ? yes(person(a[0], a[1])) : no(1, -1000);
            case "may" -> isPerson(a[0]) && isBench(a[1]) ? yes(may(a[0], a[1]) ? 1 : 0) : no(1);
            case "warmest", "packedAt", "packedWithout", "spouse", "mayMarry" ->
                isPerson(a[0]) ? yes(ofPerson(name, a[0])) : no(1);
            case "drawn" -> isPerson(a[0]) ? yes(drawn(now.beliefs(), a[0])) : no(1, -1000);
            case "coal" -> !isBench(a[0]) ? no(1) : out(a[1], 0, 999) ? no(2) : yes(coal(a[0], a[1]));
            case "eats" -> !isPerson(a[0]) ? no(1) : out(a[1], 0, 99) ? no(2) : yes(eats(a[0], a[1]));
            case "sit" -> sit(a[0], a[1]);
            case "stand" -> !isPerson(a[0]) ? no(1, 0) : now.seats().get(a[0]) == -2 ? no(5, 0) : seat(a[0], -2);
            case "preach" -> preach(a[0], a[1]);
            case "years" -> room == null || room.people.isEmpty() ? no(1) : years(name, 0, a[0], a[1]);
            case "yearsAt", "happy" -> !isPerson(a[0]) ? no(1) : years(name, a[0], a[1], a[2]);
            case "shout" -> room == null ? no(1, -100)
                : out(a[0], 0, 99) || out(a[1], 0, 6) || out(a[2], 0, 6) ? no(2, -100)
                : yes(a[3] == 1 ? gain(a[0], a[2], a[1]) : gain(a[0], a[1], a[2]));
            case "trainAt" -> room == null || out(a[0], 0, trains().size() - 1) ? no(1) : yes(trains().get(a[0]));
            default -> room == null ? no(1) : ofRoom(name, a);
        };
    }

    private static boolean out(int value, int least, int most) {
        return value < least || value > most;
    }

    private int ofRoom(String name, int[] a) {
        return switch (name) {
            case "content" -> yes(bits(contents(now, room.heat)));
            case "rents" -> yes(now.seats().stream().filter(s -> s >= 0).mapToInt(s -> room.benches.get(s).rent()).sum());
            case "heatFor" -> yes(heatFor());
            case "packed" -> yes(packing(-1, -1)[0]);
            case "cheapest" -> yes(packing(-1, -1)[1]);
            case "bestSeat" -> yes(bestSeat());
            case "couples" -> yes(bestCouples()[7]);
            case "fed" -> yes(fed());
            case "left" -> out(a[0], 0, 99) ? no(2) : yes(eatenBy(a[0], -1)[1]);
            case "trains" -> yes(trains().size());
            case "comes" -> out(a[0], 0, 99) ? no(2) : yes(comes(a[0]));
            case "surely" -> out(a[0], 0, 99) ? no(2) : yes(surely(a[0]));
            case "listen" -> yes(listen()[0]);
            case "listenLeaves" -> yes(listen()[1]);
            case "believers" -> out(a[0], 0, 20) ? no(2) : yes(believers(after(now.beliefs(), a[0])));
            case "settled" -> yes(settled());
            case "won" -> yes(won());
            case "prophet" -> yes(prophet());
            case "rests" -> out(a[0], 0, 99) ? no(2) : yes(restPairs(a[0]).size());
            case "rest" -> out(a[0], 0, 99) ? no(2) : yes(restPairs(a[0]).isEmpty() ? -2 : restPairs(a[0]).get(0));
            case "round" -> round();
            case "day" -> now.day() == 99 ? no(3) : day();
            case "image" -> image();
            default -> throw new IllegalArgumentException(name);
        };
    }

    private int ofPerson(String name, int p) {
        return switch (name) {
            case "warmest" -> warmest(p);
            case "packedAt" -> packing(-1, -1)[2 + p];
            case "packedWithout" -> packing(p, -1)[0];
            case "spouse" -> bestCouples()[p];
            default -> mayMarryBits(p);
        };
    }

    // ---- now

    private static int bits(List<Integer> numbers) {
        int bits = 0;
        for (int n : numbers) {
            bits |= 1 << n;
        }
        return bits;
    }

    private List<Integer> at(State s, int b) {
        List<Integer> list = new ArrayList<>();
        for (int p = 0; p < s.seats().size(); p++) {
            if (s.seats().get(p) == b) {
                list.add(p);
            }
        }
        return list;
    }

    private int alone(int b, int heat) {
        int far = Math.abs(room.benches.get(b).x() - room.stoveX) + Math.abs(room.benches.get(b).y() - room.stoveY);
        return heat - 4 * far < 0 ? 0 : heat - 4 * far;
    }

    private int bench(int b, int what) {
        Bench bench = room.benches.get(b);
        return switch (what) {
            case 0 -> bench.sort();
            case 1 -> bench.x() + bench.y() * 10;
            case 2 -> bench.seats();
            case 3 -> bench.rent();
            case 4 -> alone(b, room.heat);
            case 5 -> alone(b, room.heat) + at(now, b).size() * 3;
            default -> bits(at(now, b));
        };
    }

    private List<Integer> contents(State s, int heat) {
        List<Integer> list = new ArrayList<>();
        for (int p = 0; p < s.seats().size(); p++) {
            int b = s.seats().get(p);
            if (b >= 0 && alone(b, heat) >= room.people.get(p).cold()) {
                boolean lady = room.people.get(p).kind() == 2;
                if (!lady || at(s, b).stream().noneMatch(q -> room.people.get(q).kind() <= 1)) {
                    list.add(p);
                }
            }
        }
        return list;
    }

    private int person(int p, int what) {
        Person person = room.people.get(p);
        return switch (what) {
            case 0 -> person.kind();
            case 1 -> person.cold();
            case 2 -> now.seats().get(p);
            case 3 -> contents(now, room.heat).contains(p) ? 1 : 0;
            case 4 -> now.beliefs().get(p);
            default -> {
                List<Integer> same = new ArrayList<>();
                for (int q = 0; q < room.people.size(); q++) {
                    if (q != p && room.people.get(q).town().equals(person.town())) {
                        same.add(q);
                    }
                }
                yield bits(same);
            }
        };
    }

    private boolean may(int p, int b) {
        return mayBe(room.people.get(p).kind(), room.benches.get(b).sort());
    }

    private int warmest(int p) {
        int best = -2;
        for (int b = room.benches.size() - 1; b >= 0; b--) {
            boolean free = at(now, b).size() < room.benches.get(b).seats();
            if (free && may(p, b) && (best == -2 || bench(b, 5) >= bench(best, 5))) {
                best = b;
            }
        }
        return best;
    }

    private int heatFor() {
        int heat = 60;
        while (heat > 1 && contents(now, heat - 1).size() == contents(now, 60).size()) {
            heat--;
        }
        return heat;
    }

    // ---- packed: {how many, least rent, the first row ..}

    private int[] packing(int without, int moreAt) {
        String key = without + " " + moreAt;
        int[] known = packings.get(key);
        if (known == null) {
            int n = room.people.size();
            known = new int[2 + n];
            known[0] = -1;
            int[] free = new int[room.benches.size()];
            for (int b = 0; b < free.length; b++) {
                free[b] = room.benches.get(b).seats() + (b == moreAt ? 1 : 0);
            }
            allRows(0, new int[n], free, without, known);
            packings.put(key, known);
        }
        return known;
    }

    private void allRows(int p, int[] row, int[] free, int without, int[] best) {
        if (p == row.length) {
            int sit = 0;
            int rent = 0;
            for (int b : row) {
                sit += b >= 0 ? 1 : 0;
                rent += b >= 0 ? room.benches.get(b).rent() : 0;
            }
            if (sit > best[0]) {
                best[0] = sit;
                best[1] = rent;
                System.arraycopy(row, 0, best, 2, row.length);
            } else if (sit == best[0] && rent < best[1]) {
                best[1] = rent;
            }
            return;
        }
        for (int b = 0; b < free.length; b++) {
            if (p != without && free[b] > 0 && may(p, b) && alone(b, room.heat) >= room.people.get(p).cold()) {
                free[b]--;
                row[p] = b;
                allRows(p + 1, row, free, without, best);
                free[b]++;
            }
        }
        row[p] = -2;
        allRows(p + 1, row, free, without, best);
    }

    private int bestSeat() {
        int best = -2;
        int most = packing(-1, -1)[0];
        for (int b = 0; b < room.benches.size(); b++) {
            if (packing(-1, b)[0] > most) {
                most = packing(-1, b)[0];
                best = b;
            }
        }
        return best;
    }

    // ---- coal, couples

    private int coal(int wanted, int much) {
        int n = room.benches.size();
        int[] weight = new int[n];
        int all = 0;
        for (int b = 0; b < n; b++) {
            weight[b] = alone(b, room.heat) * at(now, b).size();
            all += weight[b];
        }
        if (all == 0) {
            return 0;
        }
        int[] pays = new int[n];
        int left = much;
        for (int b = 0; b < n; b++) {
            pays[b] = much * weight[b] / all;
            left -= pays[b];
        }
        boolean[] got = new boolean[n];
        while (left > 0) {
            int best = -1;
            for (int b = 0; b < n; b++) {
                if (!got[b] && (best < 0 || much * weight[b] % all > much * weight[best] % all)) {
                    best = b;
                }
            }
            got[best] = true;
            pays[best]++;
            left--;
        }
        return pays[wanted];
    }

    private boolean canMarry(int a, int b) {
        Person x = room.people.get(a);
        Person y = room.people.get(b);
        return a != b && x.town().equals(y.town()) && x.kind() != 3 && y.kind() != 3
            && !room.kin.contains(new Pair(a, b)) && !room.kin.contains(new Pair(b, a));
    }

    private int mayMarryBits(int p) {
        int bits = 0;
        for (int q = 0; q < room.people.size(); q++) {
            bits |= canMarry(p, q) ? 1 << q : 0;
        }
        return bits;
    }

    /** The partners, -2 alone, and behind them (at 7) how many couples. */
    private int[] bestCouples() {
        int[] best = new int[8];
        best[7] = -1;
        int[] row = {-2, -2, -2, -2, -2, -2, -2};
        allCouples(0, 0, row, best);
        return best;
    }

    private void allCouples(int p, int pairs, int[] row, int[] best) {
        if (p == room.people.size()) {
            if (pairs > best[7]) {
                System.arraycopy(row, 0, best, 0, 7);
                best[7] = pairs;
            }
            return;
        }
        if (row[p] != -2) {
            allCouples(p + 1, pairs, row, best);
            return;
        }
        for (int q = p + 1; q < room.people.size(); q++) {
            if (row[q] == -2 && canMarry(p, q)) {
                row[p] = q;
                row[q] = p;
                allCouples(p + 1, pairs + 1, row, best);
                row[p] = -2;
                row[q] = -2;
            }
        }
        allCouples(p + 1, pairs, row, best);
    }

    // ---- sandwiches

    private List<Integer> eaters(int stock) {
        List<Integer> order = new ArrayList<>();
        for (int turn = 0; turn < 2; turn++) {
            for (int p = 0; p < room.people.size(); p++) {
                if (room.people.get(p).kind() == 3 == (turn == 0)) {
                    order.add(p);
                }
            }
        }
        return order.subList(0, Math.min(stock, order.size()));
    }

    private int[] eatenBy(int days, int p) {
        int stock = now.stock();
        int eaten = 0;
        for (int d = 0; d < days; d++) {
            List<Integer> who = eaters(stock);
            eaten += who.contains(p) ? 1 : 0;
            stock -= who.size();
        }
        return new int[] {eaten, stock};
    }

    private int eats(int p, int days) {
        return eatenBy(days, p)[0];
    }

    private int fed() {
        if (room.people.isEmpty()) {
            return -2;
        }
        int stock = now.stock();
        int days = 0;
        while (eaters(stock).size() == room.people.size()) {
            stock -= room.people.size();
            days++;
        }
        return days;
    }

    // ---- trains

    private static boolean comesBy(int train, int hour) {
        for (int h = train % 100; h < 100; h += train / 100) {
            if (h == hour) {
                return true;
            }
        }
        return false;
    }

    private List<Integer> trains() {
        List<Integer> list = new ArrayList<>();
        for (int t = 200; t < 1300; t++) {
            int train = t;
            if (t % 100 < t / 100 && room.rumbles.stream().allMatch(h -> comesBy(train, h))
                && room.quiets.stream().noneMatch(h -> comesBy(train, h))) {
                list.add(t);
            }
        }
        return list;
    }

    private int comes(int hour) {
        return (int) trains().stream().filter(t -> comesBy(t, hour)).count();
    }

    private int surely(int from) {
        List<Integer> fit = trains();
        for (int h = from; h <= 99; h++) {
            int hour = h;
            if (!fit.isEmpty() && fit.stream().allMatch(t -> comesBy(t, hour))) {
                return h;
            }
        }
        return -2;
    }

    private int[] listen() {
        List<Integer> fit = trains();
        int[] best = {-2, -2};
        for (int h = 0; h <= 99 && !fit.isEmpty(); h++) {
            int hour = h;
            int with = (int) fit.stream().filter(t -> comesBy(t, hour)).count();
            int worst = Math.max(with, fit.size() - with);
            if (best[0] < 0 || worst < best[1]) {
                best = new int[] {h, worst};
            }
        }
        return best;
    }

    // ---- beliefs

    private int drawn(List<Integer> beliefs, int p) {
        int sum = 0;
        for (Map.Entry<Pair, Integer> e : room.heeds.entrySet()) {
            sum += e.getKey().a() == p ? e.getValue() * beliefs.get(e.getKey().b()) : 0;
        }
        return sum;
    }

    private List<Integer> after(List<Integer> beliefs, int rounds) {
        List<Integer> old = beliefs;
        for (int i = 0; i < rounds; i++) {
            List<Integer> next = new ArrayList<>();
            for (int p = 0; p < old.size(); p++) {
                int kind = room.people.get(p).kind();
                int b = old.get(p);
                boolean firm = kind == 2 && b == 1 || kind == 1 && b == -1;
                int sign = Integer.signum(drawn(old, p));
                next.add(firm || sign == 0 ? b : sign);
            }
            old = next;
        }
        return old;
    }

    private static int believers(List<Integer> beliefs) {
        int bits = 0;
        for (int p = 0; p < beliefs.size(); p++) {
            bits |= beliefs.get(p) == 1 ? 1 << p : 0;
        }
        return bits;
    }

    private int settled() {
        for (int k = 0; k <= 20; k++) {
            if (after(now.beliefs(), k).equals(after(now.beliefs(), k + 1))) {
                return k;
            }
        }
        return -2;
    }

    private int behind20(int made) {
        List<Integer> beliefs = new ArrayList<>(now.beliefs());
        for (int p = 0; p < beliefs.size(); p++) {
            if ((made >> p) % 2 == 1) {
                beliefs.set(p, 1);
            }
        }
        return believers(after(beliefs, 20));
    }

    private int won() {
        int n = room.people.size();
        for (int size = 0; size <= n; size++) {
            for (int made = 0; made < 1 << n; made++) {
                if (Integer.bitCount(made) == size && Integer.bitCount(behind20(made)) == n) {
                    return made;
                }
            }
        }
        return -2;
    }

    private int prophet() {
        int best = -2;
        for (int p = 0; p < room.people.size(); p++) {
            if (best == -2 || Integer.bitCount(behind20(1 << p)) > Integer.bitCount(behind20(1 << best))) {
                best = p;
            }
        }
        return best;
    }

    // ---- two priests

    private static int gain(int many, int mine, int other) {
        if (mine > other) {
            return many - 2 * mine;
        }
        return (mine < other ? 0 : many / 2) - 2 * mine;
    }

    private static List<Integer> restPairs(int many) {
        List<Integer> list = new ArrayList<>();
        for (int a = 0; a <= 6; a++) {
            for (int b = 0; b <= 6; b++) {
                int bestA = -99;
                int bestB = -99;
                for (int c = 0; c <= 6; c++) {
                    bestA = Math.max(bestA, gain(many, c, b));
                    bestB = Math.max(bestB, gain(many, c, a));
                }
                if (gain(many, a, b) == bestA && gain(many, b, a) == bestB) {
                    list.add(10 * a + b);
                }
            }
        }
        return list;
    }

    // ---- years

    private int years(String name, int p, int seed, int n) {
        if (out(seed, 0, 65536) || out(n, 0, 90)) {
            return no(2);
        }
        State s = now.copy();
        long x = seed;
        int happy = 0;
        for (int i = 0; i < n; i++) {
            x = (75 * x + 74) % 65537;
            int who = (int) (x % room.people.size());
            x = (75 * x + 74) % 65537;
            int b = (int) (x % room.benches.size());
            s.seats().set(who, -2);
            if (may(who, b) && at(s, b).size() < room.benches.get(b).seats()) {
                s.seats().set(who, b);
            }
            happy += contents(s, room.heat).contains(p) ? 1 : 0;
        }
        return yes(name.equals("years") ? contents(s, room.heat).size() : name.equals("happy") ? happy : s.seats().get(p));
    }

    // ---- acts

    private void keep() {
        undos.add(now.copy());
        if (undos.size() > 16) {
            undos.remove(0);
        }
    }

    private int seat(int p, int b) {
        keep();
        now.seats().set(p, b);
        return yes(1);
    }

    private int sit(int p, int b) {
        if (!isPerson(p) || !isBench(b)) {
            return no(1, 0);
        }
        if (now.seats().get(p) == b || !may(p, b)) {
            return no(5, 0);
        }
        return at(now, b).size() == room.benches.get(b).seats() ? no(3, 0) : seat(p, b);
    }

    private int preach(int p, int belief) {
        if (!isPerson(p)) {
            return no(1, 0);
        }
        if (out(belief, -1, 1)) {
            return no(2, 0);
        }
        if (now.beliefs().get(p) == belief) {
            return no(5, 0);
        }
        keep();
        now.beliefs().set(p, belief);
        return yes(1);
    }

    private int round() {
        keep();
        List<Integer> next = after(now.beliefs(), 1);
        int changed = 0;
        for (int p = 0; p < next.size(); p++) {
            changed |= next.get(p).equals(now.beliefs().get(p)) ? 0 : 1 << p;
        }
        now = new State(now.seats(), next, now.stock(), now.day());
        return yes(changed);
    }

    private int day() {
        keep();
        List<Integer> who = eaters(now.stock());
        int eaten = bits(who);
        now = new State(now.seats(), now.beliefs(), now.stock() - who.size(), now.day() + 1);
        return yes(eaten);
    }

    private int undo() {
        if (undos.isEmpty()) {
            return no(6, 0);
        }
        now = undos.remove(undos.size() - 1);
        return yes(1);
    }

    private int image() {
        if (images.size() == 3) {
            return no(3);
        }
        images.add(now.copy());
        return yes(images.size() - 1);
    }

    private int back(int i) {
        if (out(i, 0, images.size() - 1)) {
            return no(1, 0);
        }
        now = images.get(i).copy();
        undos.clear();
        return yes(1);
    }

    // ---- what is told

    private int led(int i) {
        if (room != null && i >= 0 && i < at(now, -2).size()) {
            return at(now, -2).get(i);
        }
        return Integer.MIN_VALUE;
    }

    private int size(int what) {
        if (what == 13) {
            return tape.length();
        }
        if (out(what, 0, 13)) {
            return -1;
        }
        if (room == null) {
            return 0;
        }
        int[] sizes = {room.wide, room.tall, room.heat, room.benches.size(), room.people.size(), room.kin.size(),
            room.heeds.size(), room.rumbles.size(), room.quiets.size(), now.stock(), now.day(), undos.size(),
            images.size()};
        return sizes[what];
    }
}
