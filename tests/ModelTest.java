import java.util.ArrayDeque;
import java.util.ArrayList;
import java.util.List;
import java.util.regex.Matcher;
import java.util.regex.Pattern;

/**
 * Long runs of calls, chosen by a fixed sequence of numbers, on BeltKnots and on a
 * second, slower telling of the document: lists, texts and whole copies, and storms
 * that are played out one by one. Each answer and each digest must agree.
 */
public final class ModelTest {
    private static final int RUNS = 2000;
    private static final int CALLS = 512; // with the digests that are asked behind many of them
    private static final String LETTERS = "abcdefghijklmnop";
    private static final String VOWELS = "aeio";

    // ---- the model

    private static final class Refusal extends RuntimeException {
        private static final long serialVersionUID = 1L;
        Refusal(String exception) {
            super(exception, null, false, false);
        }
    }

    private static final class Knot {
        final char first;
        char tied;
        int loosened;
        Knot(char letter) {
            first = letter;
            tied = letter;
        }
        Knot(Knot other) {
            first = other.first;
            tied = other.tied;
            loosened = other.loosened;
        }
        char reads() {
            if (VOWELS.indexOf(tied) < 0 || loosened == 0) {
                return tied;
            }
            return loosened == 1 ? (char) (tied + 1) : '?';
        }
    }

    private static final class Name {
        final List<Knot> knots = new ArrayList<>();
        Name(String letters) {
            for (char letter : letters.toCharArray()) {
                knots.add(new Knot(letter));
            }
        }
        Name(Name other) {
            for (Knot knot : other.knots) {
                knots.add(new Knot(knot));
            }
        }
        String first() {
            StringBuilder text = new StringBuilder();
            knots.forEach(k -> text.append(k.first));
            return text.toString();
        }
        String tied() {
            StringBuilder text = new StringBuilder();
            knots.forEach(k -> text.append(k.tied));
            return text.toString();
        }
        String reads() {
            StringBuilder text = new StringBuilder();
            knots.forEach(k -> text.append(k.reads()));
            return text.toString();
        }
        int questions() {
            return (int) reads().chars().filter(c -> c == '?').count();
        }
        int loosen(int number, int step) {
            int met = 0;
            for (int place = 1; place <= knots.size(); place++) {
                Knot knot = knots.get(place - 1);
                if (VOWELS.indexOf(knot.tied) >= 0 && (place + number) % step == 0) {
                    knot.loosened++;
                    met++;
                }
            }
            return met;
        }
    }

    private static final class Belt {
        int length = 60;
        int lost;
        int given;
        final List<Name> names = new ArrayList<>();
        int left() {
            int left = length;
            for (Name name : names) {
                left -= cord(name.tied());
            }
            return left;
        }
        boolean has(String reading) {
            return names.stream().anyMatch(n -> n.reads().equals(reading));
        }
    }

    private record Entry(String name, int fisher, int storm) {
    }

    private static final class World {
        final Belt[] belts = {new Belt(), new Belt(), new Belt(), new Belt(), new Belt()};
        final List<Entry> list = new ArrayList<>();
        final int[] settings = {3, 1};
        int storms;
        int knotsTied;
        int stopPart = -1;
        int stopReason = -1;

        World copy() {
            World copy = new World();
            for (int f = 0; f < 5; f++) {
                Belt to = copy.belts[f];
                to.length = belts[f].length;
                to.lost = belts[f].lost;
                to.given = belts[f].given;
                belts[f].names.forEach(n -> to.names.add(new Name(n)));
            }
            copy.list.addAll(list);
            copy.settings[0] = settings[0];
            copy.settings[1] = settings[1];
            copy.storms = storms;
            copy.knotsTied = knotsTied;
            copy.stopPart = stopPart;
            copy.stopReason = stopReason;
            return copy;
        }
    }

    static int cord(String letters) {
        int cord = 2;
        for (char letter : letters.toCharArray()) {
            int turns = 1 + LETTERS.indexOf(letter) / 4;
            int loops = LETTERS.indexOf(letter) % 4;
            cord += 2 * turns + loops + 1;
        }
        return cord;
    }

    private static final class Model {
        static final Pattern NAME = Pattern.compile("[a-p]{1,8}");
        static final String PART = "(tie[0-4]:[a-p]{1,8}|storm[0-4]|give[0-4]/[0-5]>[0-4]"
                + "|fast[0-4]/[0-5]|cut[0-4]/[0-5])";
        static final Pattern WORKS = Pattern.compile(PART + "(;" + PART + ")*");

        World world = new World();
        World kept;
        final ArrayDeque<World> saved = new ArrayDeque<>();
        String buffer = "";

        void save() {
            saved.addLast(world.copy());
            if (saved.size() > 6) {
                saved.removeFirst();
            }
        }

        static void check(boolean holds, String exception) {
            if (!holds) {
                throw new Refusal(exception);
            }
        }

        Belt beltOf(int f) {
            check(f >= 0 && f <= 4, "IndexOutOfBoundsException");
            return world.belts[f];
        }

        Name nameOf(int f, int n) {
            check(n >= 0 && n < beltOf(f).names.size(), "IndexOutOfBoundsException");
            return world.belts[f].names.get(n);
        }

        static void argument(boolean holds) {
            check(holds, "IllegalArgumentException");
        }

        static void state(boolean holds) {
            check(holds, "IllegalStateException");
        }

        int whyNot(Belt belt, String name) {
            return belt.names.size() == 6 ? 1 : cord(name) > belt.left() ? 2 : belt.has(name) ? 3 : 0;
        }

        int tieIt(Belt belt, String name) {
            belt.names.add(new Name(name));
            world.knotsTied += name.length();
            return belt.names.size() - 1;
        }

        int tie(int f) {
            Belt belt = beltOf(f);
            argument(NAME.matcher(buffer).matches());
            state(whyNot(belt, buffer) == 0);
            save();
            String name = buffer;
            buffer = "";
            return tieIt(belt, name);
        }

        int cut(int f, int n) {
            Name name = nameOf(f, n);
            save();
            world.belts[f].names.remove(n);
            return cord(name.tied());
        }

        String tightened(Name name) {
            StringBuilder text = new StringBuilder();
            name.knots.forEach(k -> text.append(k.reads() == '?' ? k.tied : k.reads()));
            return text.toString();
        }

        int whyNotFast(int f, int n) {
            Name name = world.belts[f].names.get(n);
            int then = world.belts[f].left() + cord(name.tied()) - cord(tightened(name));
            return then < 0 ? 2 : 0;
        }

        int fastIt(int f, int n) {
            int met = 0;
            for (Knot knot : world.belts[f].names.get(n).knots) {
                if (knot.loosened > 0 && knot.reads() != '?') {
                    knot.tied = knot.reads();
                    knot.loosened = 0;
                    met++;
                }
            }
            return met;
        }

        int fast(int f, int n) {
            nameOf(f, n);
            state(whyNotFast(f, n) == 0);
            save();
            return fastIt(f, n);
        }

        int noGift(int f, int n, int o) {
            Name name = nameOf(f, n);
            Belt other = beltOf(o);
            if (f == o) {
                return 5;
            }
            return name.questions() > 0 ? 4 : whyNot(other, name.reads());
        }

        int giveIt(int f, int n, int o) {
            Name name = world.belts[f].names.remove(n);
            world.belts[f].given++;
            return tieIt(world.belts[o], name.reads());
        }

        int give(int f, int n, int o) {
            state(noGift(f, n, o) == 0);
            save();
            return giveIt(f, n, o);
        }

        int stormIt(int f) {
            Belt belt = world.belts[f];
            world.storms++;
            belt.names.forEach(n -> n.loosen(world.storms, world.settings[0]));
            int lost = 0;
            for (Name name : new ArrayList<>(belt.names)) {
                if (name.questions() > world.settings[1]) {
                    belt.names.remove(name);
                    belt.lost++;
                    lost++;
                    world.list.add(new Entry(name.first(), f, world.storms));
                    if (world.list.size() > 12) {
                        world.list.remove(0);
                    }
                }
            }
            return lost;
        }

        int storm(int f) {
            beltOf(f);
            save();
            return stormIt(f);
        }

        int belt(int f, int length) {
            Belt belt = beltOf(f);
            argument(length >= 20 && length <= 120);
            state(belt.length - belt.left() <= length);
            save();
            int old = belt.length;
            belt.length = length;
            return old;
        }

        int set(int setting, int value) {
            check(setting == 0 || setting == 1, "IndexOutOfBoundsException");
            argument(setting == 0 ? value >= 1 && value <= 9 : value >= 0 && value <= 8);
            save();
            int old = world.settings[setting];
            world.settings[setting] = value;
            return old;
        }

        int append(int code) {
            argument(code >= 33 && code <= 126);
            state(buffer.length() < 60);
            buffer += (char) code;
            return buffer.length();
        }

        int clearBuffer() {
            int length = buffer.length();
            buffer = "";
            return length;
        }

        int firstError() {
            for (int end = 1; end <= buffer.length(); end++) {
                Matcher matcher = WORKS.matcher(buffer.substring(0, end));
                if (!matcher.matches() && !matcher.hitEnd()) {
                    return end - 1;
                }
            }
            return buffer.length();
        }

        int reasonOf(String part) {
            int f = part.replaceAll("^[a-z]+", "").charAt(0) - '0';
            if (part.startsWith("storm")) {
                stormIt(f);
                return 0;
            }
            if (part.startsWith("tie")) {
                String name = part.substring(part.indexOf(':') + 1);
                int reason = whyNot(world.belts[f], name);
                if (reason == 0) {
                    tieIt(world.belts[f], name);
                }
                return reason;
            }
            int n = part.charAt(part.indexOf('/') + 1) - '0';
            if (n >= world.belts[f].names.size()) {
                return 6;
            }
            int reason = 0;
            if (part.startsWith("give")) {
                int o = part.charAt(part.indexOf('>') + 1) - '0';
                reason = noGift(f, n, o);
                if (reason == 0) {
                    giveIt(f, n, o);
                }
            } else if (part.startsWith("fast")) {
                reason = whyNotFast(f, n);
                if (reason == 0) {
                    fastIt(f, n);
                }
            } else {
                world.belts[f].names.remove(n);
            }
            return reason;
        }

        int work() {
            argument(WORKS.matcher(buffer).matches());
            save();
            world.stopPart = -1;
            world.stopReason = -1;
            int done = 0;
            for (String part : buffer.split(";")) {
                int reason = reasonOf(part);
                if (reason != 0) {
                    world.stopPart = done;
                    world.stopReason = reason;
                    break;
                }
                done++;
            }
            buffer = "";
            return done;
        }

        int stopped(int what) {
            argument(what == 0 || what == 1);
            return what == 0 ? world.stopPart : world.stopReason;
        }

        String text(int f) {
            List<String> names = new ArrayList<>();
            world.belts[f].names.forEach(n -> names.add(n.reads()));
            return String.join("-", names);
        }

        int told(int f, int index) {
            beltOf(f);
            argument(index >= 0);
            return index < text(f).length() ? text(f).charAt(index) : -1;
        }

        int undo() {
            state(!saved.isEmpty());
            world = saved.removeLast();
            return saved.size();
        }

        int keep() {
            kept = world.copy();
            return count(0);
        }

        int restore() {
            state(kept != null);
            save();
            world = kept.copy();
            return count(0);
        }

        String all(boolean tied) {
            StringBuilder text = new StringBuilder();
            for (Belt belt : world.belts) {
                belt.names.forEach(n -> text.append(tied ? n.tied() : n.reads()));
            }
            return text.toString();
        }

        int letter(int l, int what) {
            check(l >= 0 && l <= 15, "IndexOutOfBoundsException");
            argument(what >= 0 && what <= 5);
            char letter = LETTERS.charAt(l);
            int[] numbers = {1 + l / 4, l % 4, cord("" + letter) - 3, VOWELS.indexOf(letter) < 0 ? 0 : 1,
                (int) all(true).chars().filter(c -> c == letter).count(),
                (int) all(false).chars().filter(c -> c == letter).count()};
            return numbers[what];
        }

        int knot(int f, int n, int k, int what) {
            Name name = nameOf(f, n);
            argument(k >= 0 && k <= 7 && what >= 0 && what <= 2);
            if (k >= name.knots.size()) {
                return -1;
            }
            Knot knot = name.knots.get(k);
            int read = knot.reads() == '?' ? 16 : knot.reads() - 'a';
            return what == 0 ? knot.tied - 'a' : what == 1 ? read : knot.loosened;
        }

        int stormsToLoss(Name name) {
            Name copy = new Name(name);
            for (int s = 1; s <= 60; s++) {
                copy.loosen(world.storms + s, world.settings[0]);
                if (copy.questions() > world.settings[1]) {
                    return s;
                }
            }
            return -1;
        }

        int name(int f, int n, int what) {
            Name name = nameOf(f, n);
            argument(what >= 0 && what <= 4);
            int differ = 0;
            for (int i = 0; i < name.tied().length(); i++) {
                differ += name.tied().charAt(i) != name.reads().charAt(i) ? 1 : 0;
            }
            int[] numbers = {name.knots.size(), cord(name.tied()), differ, name.questions(),
                stormsToLoss(name)};
            return numbers[what];
        }

        int fisher(int f, int what) {
            Belt belt = beltOf(f);
            argument(what >= 0 && what <= 4);
            return new int[] {belt.length, belt.names.size(), belt.left(), belt.lost, belt.given}[what];
        }

        int drowned(int e, int what) {
            argument(e >= 0 && what >= 0 && what <= 3);
            if (e >= world.list.size()) {
                return -1;
            }
            Entry entry = world.list.get(e);
            return new int[] {entry.name.length(), entry.fisher, entry.storm, entry.name.charAt(0) - 'a'}[what];
        }

        int find() {
            argument(NAME.matcher(buffer).matches());
            int found = -1;
            for (int e = 0; e < world.list.size(); e++) {
                found = world.list.get(e).name.equals(buffer) ? e : found;
            }
            return found;
        }

        int shared() {
            int bits = 0;
            for (int f = 0; f < 5; f++) {
                for (int o = 0; o < 5; o++) {
                    int other = o;
                    boolean has = f != o && world.belts[f].names.stream()
                            .anyMatch(n -> world.belts[other].has(n.reads()));
                    bits |= has ? 1 << f : 0;
                }
            }
            return bits;
        }

        int count(int what) {
            argument(what >= 0 && what <= 13);
            int names = 0;
            int cord = 0;
            int loose = 0;
            int lost = 0;
            int given = 0;
            for (Belt belt : world.belts) {
                names += belt.names.size();
                cord += belt.length - belt.left();
                lost += belt.lost;
                given += belt.given;
                for (Name name : belt.names) {
                    loose += (int) name.knots.stream().filter(k -> k.loosened > 0).count();
                }
            }
            return new int[] {names, world.storms, cord, cord, cord, loose, world.list.size(), lost, given,
                world.knotsTied, shared(), world.settings[0], world.settings[1], saved.size()}[what];
        }

        int whyNot(int f) {
            Belt belt = beltOf(f);
            argument(NAME.matcher(buffer).matches());
            return whyNot(belt, buffer);
        }

        int ifStorm(int f, int what) {
            beltOf(f);
            argument(what == 0 || what == 1);
            World before = world;
            world = world.copy();
            int met = 0;
            for (Name name : world.copy().belts[f].names) {
                met += name.loosen(world.storms + 1, world.settings[0]);
            }
            int lost = stormIt(f);
            world = before;
            return what == 0 ? lost : met;
        }

        int bestBelt() {
            argument(NAME.matcher(buffer).matches());
            int best = -1;
            int most = -1;
            for (int f = 0; f < 5; f++) {
                int left = world.belts[f].left() - cord(buffer);
                if (whyNot(world.belts[f], buffer) == 0 && left > most) {
                    best = f;
                    most = left;
                }
            }
            return best;
        }

        double trueShare() {
            int same = 0;
            for (int i = 0; i < all(true).length(); i++) {
                same += all(true).charAt(i) == all(false).charAt(i) ? 1 : 0;
            }
            return all(true).isEmpty() ? 1.0 : (double) same / all(true).length();
        }

        long digest() {
            List<Long> values = new ArrayList<>();
            for (int what = 0; what <= 13; what++) {
                values.add((long) count(what));
            }
            for (int i = 0; i < 16 * 6; i++) {
                values.add((long) letter(i / 6, i % 6));
            }
            for (int f = 0; f < 5; f++) {
                for (int what = 0; what <= 4; what++) {
                    values.add((long) fisher(f, what));
                }
                values.add((long) ifStorm(f, 0));
                values.add((long) ifStorm(f, 1));
                text(f).chars().forEach(c -> values.add((long) c));
                for (int n = 0; n < world.belts[f].names.size(); n++) {
                    for (int what = 0; what <= 4; what++) {
                        values.add((long) name(f, n, what));
                    }
                    for (int i = 0; i < world.belts[f].names.get(n).knots.size() * 3; i++) {
                        values.add((long) knot(f, n, i / 3, i % 3));
                    }
                }
            }
            for (int i = 0; i < world.list.size() * 4; i++) {
                values.add((long) drowned(i / 4, i % 4));
            }
            values.add((long) stopped(0));
            values.add((long) stopped(1));
            values.add(Double.doubleToLongBits(trueShare()));
            values.add((long) buffer.length());
            buffer.chars().forEach(c -> values.add((long) c));
            long hash = 3917;
            for (long value : values) {
                hash = 31 * hash + value;
            }
            return hash;
        }
    }

    // ---- the calls

    private interface Asked {
        long ask();
    }

    private static long seed;

    /** A number below the bound, by Knuth's generator for 64 bits. */
    private static int below(int bound) {
        seed = seed * 6364136223846793005L + 1442695040888963407L;
        return (int) ((seed >>> 33) % bound);
    }

    private static int one(int... choices) {
        return choices[below(choices.length)];
    }

    /** Mostly a number of the range, at times one beside it. */
    private static int near(int least, int most) {
        return below(12) == 0 ? one(least - 1, most + 1, Integer.MIN_VALUE, Integer.MAX_VALUE)
                : least + below(most - least + 1);
    }

    private static String someName() {
        String[] small = {"a", "b", "ab", "bb", "e", "f", "ae", "be", "aa", "io", "jo", "op", "aeio", "baba",
            "c", "d", "i", "j", "ba"};
        if (below(3) > 0) {
            return small[below(small.length)];
        }
        StringBuilder name = new StringBuilder();
        int size = 1 + below(8);
        for (int i = 0; i < size; i++) {
            name.append(below(2) == 0 ? VOWELS.charAt(below(4)) : LETTERS.charAt(below(16)));
        }
        return name.toString();
    }

    private static String somePart() {
        int fisher = below(below(2) == 0 ? 2 : 5);
        switch (below(6)) {
            case 0:
            case 1: return "tie" + fisher + ":" + someName();
            case 2: return "storm" + fisher;
            case 3: return "give" + fisher + "/" + below(3) + ">" + below(5);
            case 4: return "fast" + fisher + "/" + below(below(3) == 0 ? 6 : 2);
            default: return "cut" + fisher + "/" + below(6);
        }
    }

    private static String someText(Model m) {
        int entries = m.world.list.size();
        if (entries > 0 && below(4) == 0) {
            return m.world.list.get(below(entries)).name();
        }
        if (below(2) == 0) {
            return someName();
        }
        StringBuilder text = new StringBuilder(somePart());
        for (int more = below(5); more > 0; more--) {
            text.append(';').append(somePart());
        }
        if (below(5) == 0) {
            text.setCharAt(below(text.length()), "acfgiorstw0156/:;>?~".charAt(below(20)));
        }
        if (below(8) == 0) {
            text.setLength(below(text.length()));
        }
        return text.toString();
    }

    private static String failed;
    private static int calls; // of this run
    private static boolean stormy; // the run drowns many, and seldom goes back

    private static boolean agree(String call, Asked real, Asked model) {
        String got;
        String want;
        calls++;
        try {
            got = Long.toString(real.ask());
        } catch (RuntimeException e) {
            got = e.getClass().getSimpleName();
        }
        try {
            want = Long.toString(model.ask());
        } catch (Refusal e) {
            want = e.getMessage();
        }
        if (!got.equals(want)) {
            failed = call + " answered " + got + ", due is " + want;
        }
        return got.equals(want);
    }

    private static boolean change(BeltKnots x, Model m) {
        int f = below(3) == 0 ? near(0, 4) : below(2);
        int n = someNameOf(m, f);
        int o = near(0, 4);
        int kind = below(16);
        switch (stormy && kind >= 9 && kind <= 12 ? 14 : kind) {
            case 14:
            case 15: return agree("storm(" + f + ")", () -> x.storm(f), () -> m.storm(f));
            case 0:
            case 1:
            case 2: return agree("tie(" + f + ")", () -> x.tie(f), () -> m.tie(f));
            case 3: return agree("cut(" + f + ", " + n + ")", () -> x.cut(f, n), () -> m.cut(f, n));
            case 4: return agree("fast(" + f + ", " + n + ")", () -> x.fast(f, n), () -> m.fast(f, n));
            case 5: return agree("give(" + f + ", " + n + ", " + o + ")",
                    () -> x.give(f, n, o), () -> m.give(f, n, o));
            case 6:
            case 7: return agree("storm(" + f + ")", () -> x.storm(f), () -> m.storm(f));
            case 8: {
                int length = below(3) == 0 ? near(20, 120) : one(25, 30, 45, 60, 80, 120, 120, 120);
                return agree("belt(" + f + ", " + length + ")",
                        () -> x.belt(f, length), () -> m.belt(f, length));
            }
            case 9: {
                int s = near(0, 1);
                int v = below(2) == 0 ? near(0, 9) : 1 + below(3);
                return agree("set(" + s + ", " + v + ")", () -> x.set(s, v), () -> m.set(s, v));
            }
            case 10: return below(3) > 0 || agree("undo()", x::undo, m::undo);
            case 11: return agree("keep()", x::keep, m::keep);
            case 12: return below(6) > 0 || agree("restore()", x::restore, m::restore);
            default: return agree("work()", x::work, m::work);
        }
    }

    /** Mostly a name that the belt has. */
    private static int someNameOf(Model m, int f) {
        int names = f < 0 || f > 4 ? 0 : m.world.belts[f].names.size();
        return names == 0 ? near(0, 5) : near(0, names - 1);
    }

    /** What the text that was just typed is for. */
    private static boolean use(BeltKnots x, Model m) {
        int f = below(2);
        if (below(6) == 0) {
            return agree("find()", x::find, m::find);
        }
        if (Model.NAME.matcher(m.buffer).matches() && below(4) > 0) {
            return agree("tie(" + f + ")", () -> x.tie(f), () -> m.tie(f));
        }
        return below(3) > 0 ? agree("work()", x::work, m::work) : look(x, m);
    }

    /** Some runs begin with long belts, or with storms that loosen all. */
    private static boolean begin(BeltKnots x, Model m, int run) {
        boolean agreed = true;
        for (int f = 0; f < 5 && run % 2 == 0; f++) {
            int fisher = f;
            agreed &= agree("belt", () -> x.belt(fisher, 120), () -> m.belt(fisher, 120));
        }
        stormy = run % 4 == 1;
        if (run % 3 != 0 || stormy) {
            int step = stormy ? 1 : run % 3;
            int borne = stormy ? 0 : run % 5;
            agreed &= agree("set", () -> x.set(0, step), () -> m.set(0, step));
            agreed &= agree("set", () -> x.set(1, borne), () -> m.set(1, borne));
        }
        return agreed;
    }

    private static boolean look(BeltKnots x, Model m) {
        int f = below(2) == 0 ? near(0, 4) : below(2);
        int n = someNameOf(m, f);
        int k = near(0, 7);
        int w = near(0, 5);
        switch (below(18)) {
            case 0: return agree("letter", () -> x.letter(n + k, w), () -> m.letter(n + k, w));
            case 1: return agree("knot", () -> x.knot(f, n, k, w), () -> m.knot(f, n, k, w));
            case 2: return agree("name", () -> x.name(f, n, w), () -> m.name(f, n, w));
            case 3: return agree("fisher", () -> x.fisher(f, w), () -> m.fisher(f, w));
            case 4: return agree("drowned", () -> x.drowned(k, w), () -> m.drowned(k, w));
            case 5: return agree("find", x::find, m::find);
            case 6: return agree("count", () -> x.count(n + k), () -> m.count(n + k));
            case 7:
            case 8: return agree("whyNot", () -> x.whyNot(f), () -> m.whyNot(f));
            case 9: return agree("noGift", () -> x.noGift(f, n, k), () -> m.noGift(f, n, k));
            case 10: return agree("ifStorm", () -> x.ifStorm(f, w), () -> m.ifStorm(f, w));
            case 11:
            case 12: return agree("bestBelt", x::bestBelt, m::bestBelt);
            case 13: return agree("trueShare", () -> Double.doubleToLongBits(x.trueShare()),
                    () -> Double.doubleToLongBits(m.trueShare()));
            case 14: return agree("stopped", () -> x.stopped(w), () -> m.stopped(w));
            case 15: return agree("told", () -> x.told(f, n * k), () -> m.told(f, n * k));
            default: return agree("firstError", x::firstError, m::firstError);
        }
    }

    private static boolean run(int run) {
        seed = run * 7919L + 1;
        BeltKnots x = new BeltKnots();
        Model m = new Model();
        String pending = "";
        calls = 0;
        boolean begun = false;
        // a turn makes one call, or two, and a digest
        while (calls <= CALLS - 3) {
            boolean agreed;
            boolean typed = !pending.isEmpty();
            if (!begun) {
                agreed = begin(x, m, run);
                begun = true;
            } else if (!pending.isEmpty()) {
                int code = pending.charAt(0);
                pending = pending.substring(1);
                agreed = agree("append(" + code + ")", () -> x.append(code), () -> m.append(code));
                if (agreed && pending.isEmpty() && below(6) > 0) {
                    agreed = use(x, m);
                }
            } else if (below(4) == 0) {
                pending = someText(m);
                agreed = agree("clearBuffer()", x::clearBuffer, m::clearBuffer);
            } else if (below(40) == 0) {
                int code = near(33, 126);
                agreed = agree("append(" + code + ")", () -> x.append(code), () -> m.append(code));
            } else {
                agreed = below(3) > 0 ? change(x, m) : look(x, m);
            }
            boolean asked = !typed && below(3) > 0;
            if (!agreed || asked && !agree("digest() behind it", x::digest, m::digest)) {
                System.out.println("run " + run + ", call " + calls + ": " + failed);
                return false;
            }
        }
        return true;
    }

    public static void main(String[] args) {
        int wrong = 0;
        for (int run = 0; run < RUNS && wrong < 5; run++) {
            wrong += run(run) ? 0 : 1;
        }
        System.out.println(RUNS + " runs of " + CALLS + " calls, " + wrong + " wrong");
        System.exit(wrong == 0 ? 0 : 1);
    }
}
