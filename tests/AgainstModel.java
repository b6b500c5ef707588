import java.nio.charset.StandardCharsets;
import java.util.ArrayList;
import java.util.Arrays;
import java.util.List;
import java.util.Set;

/**
 * Runs of calls made by a fixed counter, each answered by BallotRing and by a plain model of the document that tries
 * everything out. The first argument is the number of runs.
 */
public final class AgainstModel {
    public static void main(String[] args) {
        int runs = args.length > 0 ? Integer.parseInt(args[0]) : 400;
        int wrong = 0;
        long calls = 0;
        for (int run = 0; run < runs && wrong < 10; run++) {
            Play play = new Play(run);
            String fault = play.go();
            calls += play.calls;
            if (fault != null) {
                wrong++;
                System.out.println("run " + run + ": " + fault);
            }
        }
        System.out.println(runs + " runs, " + calls + " calls, " + wrong + " wrong");
        if (wrong != 0) {
            System.exit(1);
        }
    }

    /** A generator of numbers that is the same each time. */
    static final class Dice {
        private long state;

        Dice(long seed) {
            state = seed * 0x9E3779B97F4A7C15L + 12345;
        }

        int below(int n) {
            if (n < 1) {
                return 0;
            }
            state = state * 6364136223846793005L + 1442695040888963407L;
            return (int) ((state >>> 33) % n);
        }

        boolean one(int n) {
            return below(n) == 0;
        }

        <T> T of(List<T> all) {
            return all.get(below(all.size()));
        }
    }

    /** One run on a new object and a new model. */
    static final class Play {
        final Dice dice;
        final BallotRing ring = new BallotRing();
        final Model model = new Model();
        final List<String> log = new ArrayList<>();
        final int mostVoters;
        final boolean rings;
        final int[] often;
        int calls;
        String fault;

        // A run asks some few sorts of calls more often than the others, so that these come upon each other's doings.
        Play(int seed) {
            dice = new Dice(seed);
            mostVoters = seed % 20 == 0 ? 8 : 2 + seed % 4;
            rings = seed % 3 == 0;
            often = seed % 4 == 1 ? new int[] {21, 22, 23, 24, 25, 26, 27, 27} : new int[2 + dice.below(4)];
            for (int i = 0; i < often.length && seed % 4 != 1; i++) {
                often[i] = dice.below(29);
            }
        }

        String go() {
            int steps = 30 + dice.below(60);
            for (int i = 0; i < steps && fault == null; i++) {
                if (i == 0 || dice.one(25)) {
                    tellRoll();
                } else if (dice.one(8)) {
                    tellOne();
                } else {
                    ask();
                }
            }
            return fault == null ? null : fault + "\n  " + String.join("\n  ", log);
        }

        void due(String call, long got, long want) {
            calls++;
            log.add(call + " = " + got);
            if (got != want && fault == null) {
                fault = call + " answered " + got + ", the model says " + want;
            }
        }

        void write(String text) {
            byte[] bytes = text.getBytes(StandardCharsets.ISO_8859_1);
            log.add("text: " + text);
            due("end(0)", ring.end(0), model.end(0));
            int n = 0;
            while (n < bytes.length && n + 20 <= 1600) {
                int[] five = new int[5];
                for (int i = 0; i < 20; i++) {
                    int b = n + i < bytes.length ? bytes[n + i] & 255 : 32;
                    five[i / 4] |= b << (24 - 8 * (i % 4));
                }
                due("feed", ring.feed(five[0], five[1], five[2], five[3], five[4]),
                    model.feed(five[0], five[1], five[2], five[3], five[4]));
                n += 20;
            }
            int end = Math.min(bytes.length, 1600);
            due("end(" + end + ")", ring.end(end), model.end(end));
        }

        void faults() {
            due("fault(0)", ring.fault(0), model.fault(0));
            due("fault(1)", ring.fault(1), model.fault(1));
        }

        void tellRoll() {
            Writer writer = new Writer(dice, mostVoters, rings);
            String text = writer.roll();
            if (dice.one(4)) {
                text = writer.spoiled(text);
            } else if (dice.one(8)) {
                text = "name x;name ann;street s;voter ann at s weight 1;voter bob at s weight 2;ballot bob if"
                    + writer.soup();
            }
            write(text);
            due("roll()", ring.roll(), model.roll());
            faults();
            leftOnTape();
        }

        void tellOne() {
            int voter = dice.below(model.voters.size() + (dice.one(8) ? 1 : 0));
            Writer writer = new Writer(dice, mostVoters, rings);
            writer.know(model);
            String text = writer.wording(0, voter, false);
            if (dice.one(4)) {
                text = writer.spoiled(text);
            } else if (dice.one(8)) {
                text = writer.soup();
            }
            write(text);
            due("reword(" + voter + ")", ring.reword(voter), model.reword(voter));
            faults();
            leftOnTape();
        }

        void leftOnTape() {
            due("about(6)", ring.about(6), model.about(6));
        }

        int voter() {
            return dice.below(model.voters.size() + 2) - (dice.one(5) ? 1 : 0);
        }

        int name() {
            return dice.below(model.names.size() + 2) - (dice.one(5) ? 1 : 0);
        }

        void ask() {
            int v = voter();
            int m = name();
            int k = dice.below(model.time + 3) - 1;
            boolean small = model.voters.size() < 6;
            switch (dice.one(3) ? dice.below(29) : often[dice.below(often.length)]) {
                case 0 -> due("countings()", ring.countings(), model.countings().size());
                case 1, 2 -> {
                    int i = dice.below(model.countings().size() + 1);
                    due("counting(" + i + "," + v + ")", ring.counting(i, v), model.counting(i, v));
                    due("chosen(" + i + ")", ring.chosen(i), model.chosen(i));
                }
                case 3 -> due("wins(" + m + ")", ring.wins(m), model.wins(m));
                case 4 -> due("says(" + v + ")", ring.says(v), model.says(v));
                case 5 -> due("looks(" + v + ")", ring.looks(v), model.looks(v));
                case 6 -> due("part(" + v + ")", ring.part(v), model.part(v));
                case 7 -> due("telling()", ring.telling(), model.telling());
                case 8, 9, 10 -> due("mark(" + v + "," + m + ")", ring.mark(v, m) ? 1 : 0, model.mark(v, m) ? 1 : 0);
                case 11, 12 -> due("open(" + v + ")", ring.open(v), model.open(v));
                case 13 -> due("has(" + v + ")", ring.has(v), model.has(v));
                case 14 -> due("judge()", ring.judge(), model.judge());
                case 15 -> {
                    int order = model.someOrder(dice);
                    due("rest(" + order + ")", ring.rest(order), model.rest(order));
                }
                case 16 -> {
                    if (small) {
                        due("soonest(0)", ring.soonest(0), model.soonest(0));
                        due("soonest(1)", ring.soonest(1), model.soonest(1));
                    }
                }
                case 17, 18 -> {
                    int what = dice.below(5) - 1;
                    if (small) {
                        due("sway(" + m + "," + what + ")", ring.sway(m, what), model.sway(m, what));
                    }
                }
                case 19, 20 -> {
                    int street = dice.below(model.streets.size() + 2) - 1;
                    due("more(" + street + "," + m + ")", ring.more(street, m), model.more(street, m));
                }
                case 21, 22 -> due("hand(" + v + "," + m + ")", ring.hand(v, m), model.hand(v, m));
                case 23 -> {
                    int h = dice.below(model.now.hands.size() + 2) - 1;
                    due("untell(" + h + ")", ring.untell(h) ? 1 : 0, model.untell(h) ? 1 : 0);
                }
                case 24 -> {
                    int by = dice.one(6) ? dice.below(1200) - 100 : dice.below(3);
                    due("later(" + by + ")", ring.later(by), model.later(by));
                }
                case 25 -> due("left(" + k + ")", ring.left(k), model.left(k));
                case 26 -> due("sure(" + v + "," + k + ")", ring.sure(v, k), model.sure(v, k));
                case 27 -> {
                    int box = dice.below(5) - 1;
                    if (dice.one(2)) {
                        due("image(" + box + ")", ring.image(box), model.image(box));
                    } else {
                        due("back(" + box + ")", ring.back(box), model.back(box));
                    }
                }
                default -> {
                    int what = dice.below(10) - 1;
                    due("about(" + what + ")", ring.about(what), model.about(what));
                }
            }
        }
    }

    /** Writes texts that may stand, and spoils them. */
    static final class Writer {
        final Dice dice;
        final int mostVoters;
        final boolean rings;
        List<String> names = new ArrayList<>();
        List<String> streets = new ArrayList<>();
        List<String> voters = new ArrayList<>();
        List<String> told = new ArrayList<>();
        static final List<String> POOL = List.of("a", "b", "ann", "bob", "cyd", "dee", "eve", "x", "red", "longword");
        static final List<String> BITS = List.of("name", "if", "then", "else", "not", "(", ")", "12345", "0", "9", "80",
            "longwords", "as", "is", "in", ";", "=", "<", "+", "-", "blank", "most", "ann", "bob", "3x", "%", "A", "or",
            "and", "votes", "blanks", "voter", "ballot", "street", "weight", "at", "\n", "  ", "0007");

        Writer(Dice d, int most, boolean mostlyRings) {
            dice = d;
            mostVoters = most;
            rings = mostlyRings;
        }

        void know(Model model) {
            names = model.names;
            streets = model.streets;
            voters = new ArrayList<>();
            for (Model.Voter v : model.voters) {
                voters.add(v.name);
            }
        }

        String gap() {
            return dice.one(12) ? (dice.one(2) ? "  " : "\n") : " ";
        }

        String loose() {
            return dice.one(3) ? gap() : "";
        }

        String fresh(List<String> of) {
            String s = dice.of(POOL);
            for (int i = 0; of.contains(s) && i < 40; i++) {
                s = dice.of(POOL);
            }
            return s;
        }

        String roll() {
            StringBuilder text = new StringBuilder(loose());
            int nameCount = dice.one(6) ? dice.below(4) : 1 + dice.below(3);
            int streetCount = dice.one(6) ? dice.below(5) : 1 + dice.below(2);
            for (int i = 0; i < nameCount; i++) {
                String s = fresh(names);
                names.add(s);
                text.append("name").append(gap()).append(s).append(loose()).append(";").append(loose());
            }
            for (int i = 0; i < streetCount; i++) {
                String s = fresh(streets);
                streets.add(s);
                text.append("street").append(gap()).append(s).append(loose()).append(";").append(loose());
            }
            int n = streets.isEmpty() ? 0 : mostVoters - dice.below(2);
            for (int i = 0; i < n; i++) {
                String s = fresh(voters);
                voters.add(s);
                text.append("voter ").append(s).append(" at ").append(dice.of(streets)).append(" weight ")
                    .append(dice.one(200) ? 10 * dice.below(2) : 1 + dice.below(dice.one(3) ? 9 : 2)).append(loose()).append(";");
                if (i > 0 && dice.one(6)) {
                    text.append(ballot(i));
                }
            }
            for (int i = 0; i < n; i++) {
                if (!told.contains(voters.get(i)) && !dice.one(8)) {
                    text.append(ballot(i));
                }
            }
            return text.toString();
        }

        String ballot(int i) {
            String s = voters.get(i);
            told.add(s);
            return loose() + "ballot " + s + gap() + wording(0, i, true) + loose() + ";";
        }

        String other(int own) {
            String s = voters.isEmpty() ? "zed" : dice.of(voters);
            if (own < voters.size() && s.equals(voters.get(own)) && !dice.one(100)) {
                s = voters.get((own + 1) % voters.size());
            }
            return s;
        }

        String aName() {
            return names.isEmpty() || dice.one(200) ? dice.of(POOL) : dice.of(names);
        }

        String inStreet() {
            return streets.isEmpty() || dice.one(2) ? "" : " in " + dice.of(streets);
        }

        String wording(int deep, int own, boolean calm) {
            // By rings of voters who go as each other many countings stand.
            if (rings && !dice.one(4)) {
                return "as " + other(own);
            }
            if (deep < 9 && dice.one(deep == 0 ? 2 : 3 + (calm ? deep : 0))) {
                return "if " + question(deep + 1, own, calm) + " then " + wording(deep + 1, own, calm) + " else "
                    + wording(deep + 1, own, calm);
            }
            switch (dice.below(7)) {
                case 0:
                    return "blank";
                case 1:
                case 2:
                    return "as " + other(own);
                case 3:
                    return "most" + inStreet();
                case 4:
                    return "fewest" + inStreet();
                default:
                    return aName();
            }
        }

        String question(int deep, int own, boolean calm) {
            StringBuilder s = new StringBuilder(one(deep, own, calm));
            while (dice.one(4)) {
                s.append(dice.one(2) ? " or " : " and ").append(one(deep, own, calm));
            }
            return s.toString();
        }

        String one(int deep, int own, boolean calm) {
            if (deep < 9 && dice.one(6 + (calm ? deep : 0))) {
                return "not " + one(deep + 1, own, calm);
            }
            String s = sum(deep, own, calm);
            if (dice.one(2)) {
                s += loose() + dice.of(List.of("<", ">", "=")) + loose() + sum(deep, own, calm);
            }
            return s;
        }

        String sum(int deep, int own, boolean calm) {
            StringBuilder s = new StringBuilder(unit(deep, own, calm));
            while (dice.one(4)) {
                s.append(loose()).append(dice.one(2) ? "+" : "-").append(loose()).append(unit(deep, own, calm));
            }
            return s.toString();
        }

        String unit(int deep, int own, boolean calm) {
            switch (dice.below(6)) {
                case 0:
                    return "" + dice.below(dice.one(5) ? 10000 : 6);
                case 1:
                    return "blanks" + inStreet();
                case 2:
                    return "is " + other(own) + " " + aName();
                case 3:
                    if (deep < 9 && (!calm || dice.one(2))) {
                        return "(" + loose() + question(deep + 1, own, calm) + loose() + ")";
                    }
                    return "" + dice.below(4);
                default:
                    return "votes " + aName() + inStreet();
            }
        }

        String soup() {
            StringBuilder s = new StringBuilder();
            for (int n = dice.below(12); n > 0; n--) {
                s.append(dice.one(5) ? "" : " ").append(dice.of(BITS));
            }
            return s.toString();
        }

        String spoiled(String text) {
            int at = dice.below(text.length() + 1);
            int to = Math.min(text.length(), at + dice.below(6));
            switch (dice.below(4)) {
                case 0:
                    return text.substring(0, at) + text.substring(to);
                case 1:
                    return text.substring(0, at);
                case 2:
                    return text.substring(0, at) + dice.of(BITS) + text.substring(at);
                default:
                    return text.substring(0, at) + " " + dice.of(BITS) + " " + text.substring(to);
            }
        }
    }

    /** The document in its plainest form. */
    static final class Model {
        static final Set<String> OWN = Set.of("name", "street", "voter", "at", "weight", "ballot", "if", "then", "else",
            "blank", "as", "most", "in", "fewest", "or", "and", "not", "votes", "blanks", "is");

        static final class Voter {
            String name;
            int street;
            int weight;
        }

        static final class Fault extends RuntimeException {
            private static final long serialVersionUID = 1;
            final int which;
            final int place;

            Fault(int w, int p) {
                which = w;
                place = p;
            }
        }

        /** A part of a wording: what it is, its numbers, its parts. */
        static final class Node {
            final String what;
            int a = -1;
            int b = -1;
            List<Node> parts = new ArrayList<>();

            Node(String w, Node... p) {
                what = w;
                parts.addAll(Arrays.asList(p));
            }

            int units() {
                int sum = Set.of("number", "votes", "is", "brackets", "mark", "as", "most", "fewest").contains(what)
                    ? 1 : 0;
                for (Node p : parts) {
                    sum += p.units();
                }
                return sum;
            }
        }

        static final class Hand {
            int voter;
            int mark;
            int told;
            int untold = Integer.MAX_VALUE;
            boolean isUntold;

            Hand copy() {
                Hand h = new Hand();
                h.voter = voter;
                h.mark = mark;
                h.told = told;
                h.isUntold = isUntold;
                h.untold = untold;
                return h;
            }
        }

        static final class State {
            Node[] ballots = new Node[8];
            int[] marks = new int[8];
            List<Hand> hands = new ArrayList<>();

            State copy() {
                State s = new State();
                s.ballots = ballots.clone();
                s.marks = marks.clone();
                for (Hand h : hands) {
                    s.hands.add(h.copy());
                }
                return s;
            }
        }

        List<String> names = new ArrayList<>();
        List<String> streets = new ArrayList<>();
        List<Voter> voters = new ArrayList<>();
        State now = new State();
        State[] boxes = new State[3];
        int told;
        int time;
        int faultWhich;
        int faultPlace = -1;
        StringBuilder tape = new StringBuilder();
        List<int[]> cached;

        // --- the text

        /** Reads by going down, and throws the first fault. */
        static final class Parser {
            final String text;
            int pos;
            int start;
            String token;
            List<String> names = new ArrayList<>();
            List<String> streets = new ArrayList<>();
            List<Voter> voters = new ArrayList<>();
            Node[] ballots = new Node[8];
            int own;
            int units;
            int told;

            Parser(String t) {
                text = t;
                next();
            }

            static boolean letter(char c) {
                return c >= 'a' && c <= 'z';
            }

            void next() {
                while (pos < text.length() && (text.charAt(pos) == ' ' || text.charAt(pos) == '\n')) {
                    pos++;
                }
                start = pos;
                if (pos == text.length()) {
                    token = "";
                    return;
                }
                char c = text.charAt(pos);
                int i = pos;
                if (letter(c)) {
                    while (i < text.length() && letter(text.charAt(i))) {
                        i++;
                    }
                    token = i - pos > 8 ? null : text.substring(pos, i);
                } else if (Character.isDigit(c)) {
                    while (i < text.length() && text.charAt(i) >= '0' && text.charAt(i) <= '9') {
                        i++;
                    }
                    boolean joined = i < text.length() && letter(text.charAt(i));
                    token = joined || i - pos > 4 ? null : text.substring(pos, i);
                } else {
                    i++;
                    token = ";()<>=+-".indexOf(c) >= 0 ? "" + c : null;
                }
                pos = i;
            }

            Fault fault(int which) {
                return new Fault(token == null ? 1 : which, start);
            }

            boolean sees(String s) {
                return s.equals(token);
            }

            void take(String s) {
                if (!sees(s)) {
                    throw fault(2);
                }
                next();
            }

            boolean seesName() {
                return token != null && !token.isEmpty() && letter(token.charAt(0)) && !OWN.contains(token);
            }

            boolean seesNumber() {
                return token != null && !token.isEmpty() && token.charAt(0) >= '0' && token.charAt(0) <= '9';
            }

            int find(List<String> all) {
                if (!seesName()) {
                    throw fault(2);
                }
                int i = all.indexOf(token);
                if (i < 0) {
                    throw fault(5);
                }
                return i;
            }

            int known(List<String> all) {
                int i = find(all);
                next();
                return i;
            }

            String fresh(List<String> all) {
                if (!seesName()) {
                    throw fault(2);
                }
                if (all.contains(token)) {
                    throw fault(3);
                }
                String s = token;
                next();
                return s;
            }

            List<String> voterNames() {
                List<String> all = new ArrayList<>();
                for (Voter v : voters) {
                    all.add(v.name);
                }
                return all;
            }

            int other() {
                int v = find(voterNames());
                if (v == own) {
                    throw fault(3);
                }
                next();
                return v;
            }

            void roll() {
                while (!sees("")) {
                    if (sees("name") && names.size() < 3) {
                        next();
                        names.add(fresh(names));
                    } else if (sees("street") && streets.size() < 4) {
                        next();
                        streets.add(fresh(streets));
                    } else if (sees("voter") && voters.size() < 8) {
                        next();
                        Voter v = new Voter();
                        v.name = fresh(voterNames());
                        take("at");
                        v.street = known(streets);
                        take("weight");
                        if (!seesNumber()) {
                            throw fault(2);
                        }
                        v.weight = Integer.parseInt(token);
                        if (v.weight < 1 || v.weight > 9) {
                            throw fault(4);
                        }
                        next();
                        voters.add(v);
                    } else if (sees("ballot")) {
                        next();
                        own = find(voterNames());
                        if (ballots[own] != null) {
                            throw fault(3);
                        }
                        next();
                        ballots[own] = e(0);
                        told++;
                    } else {
                        throw fault(2);
                    }
                    take(";");
                }
            }

            void unitHere() {
                if (units == 80) {
                    throw fault(2);
                }
                units++;
            }

            void deepHere(int within) {
                if (within > 6) {
                    throw fault(2);
                }
            }

            Node e(int within) {
                if (sees("if")) {
                    deepHere(within);
                    next();
                    Node f = f(within + 1);
                    take("then");
                    Node first = e(within + 1);
                    take("else");
                    return new Node("if", f, first, e(within + 1));
                }
                if (sees("blank") || sees("as") || sees("most") || sees("fewest") || seesName()) {
                    unitHere();
                } else {
                    throw fault(2);
                }
                Node n;
                if (sees("blank")) {
                    next();
                    n = new Node("mark");
                    n.a = 0;
                } else if (sees("as")) {
                    next();
                    n = new Node("as");
                    n.a = other();
                } else if (sees("most") || sees("fewest")) {
                    n = new Node(token);
                    next();
                    n.b = where();
                } else {
                    n = new Node("mark");
                    n.a = known(names) + 1;
                }
                return n;
            }

            int where() {
                if (!sees("in")) {
                    return -1;
                }
                next();
                return known(streets);
            }

            Node f(int within) {
                Node n = both(within);
                while (sees("or")) {
                    next();
                    n = new Node("or", n, both(within));
                }
                return n;
            }

            Node both(int within) {
                Node n = one(within);
                while (sees("and")) {
                    next();
                    n = new Node("and", n, one(within));
                }
                return n;
            }

            Node one(int within) {
                if (sees("not")) {
                    deepHere(within);
                    next();
                    return new Node("not", one(within + 1));
                }
                Node n = sum(within);
                if (sees("<") || sees(">") || sees("=")) {
                    String s = token;
                    next();
                    n = new Node(s, n, sum(within));
                }
                return n;
            }

            Node sum(int within) {
                Node n = unit(within);
                while (sees("+") || sees("-")) {
                    String s = token;
                    next();
                    n = new Node(s, n, unit(within));
                }
                return n;
            }

            Node unit(int within) {
                boolean can = seesNumber() || sees("votes") || sees("blanks") || sees("is") || sees("(");
                if (!can) {
                    throw fault(2);
                }
                unitHere();
                Node n;
                if (seesNumber()) {
                    n = new Node("number");
                    n.a = Integer.parseInt(token);
                    next();
                } else if (sees("votes")) {
                    next();
                    n = new Node("votes");
                    n.a = known(names) + 1;
                    n.b = where();
                } else if (sees("blanks")) {
                    next();
                    n = new Node("votes");
                    n.a = 0;
                    n.b = where();
                } else if (sees("is")) {
                    next();
                    n = new Node("is");
                    n.b = other();
                    n.a = known(names) + 1;
                } else {
                    deepHere(within);
                    next();
                    n = new Node("brackets", f(within + 1));
                    take(")");
                }
                return n;
            }
        }

        int feed(int... five) {
            if (tape.length() + 20 > 1600) {
                return -1;
            }
            for (int i : five) {
                tape.append((char) (i >>> 24)).append((char) (i >>> 16 & 255)).append((char) (i >>> 8 & 255))
                    .append((char) (i & 255));
            }
            return tape.length();
        }

        int end(int n) {
            if (n < 0 || n > tape.length()) {
                return -1;
            }
            tape.setLength(n);
            return n;
        }

        int roll() {
            try {
                faultWhich = 0;
                faultPlace = -1;
                Parser p = new Parser(tape.toString());
                p.roll();
                names = p.names;
                streets = p.streets;
                voters = p.voters;
                told = p.told;
                now = new State();
                now.ballots = p.ballots;
                boxes = new State[3];
                cached = null;
                return voters.size();
            } catch (Fault f) {
                faultWhich = f.which;
                faultPlace = f.place;
                return -1;
            } finally {
                tape.setLength(0);
            }
        }

        int units(int but) {
            int sum = 0;
            for (int i = 0; i < 8; i++) {
                sum += i == but || now.ballots[i] == null ? 0 : now.ballots[i].units();
            }
            return sum;
        }

        int reword(int voter) {
            if (noVoter(voter)) {
                return -2;
            }
            try {
                faultWhich = 0;
                faultPlace = -1;
                Parser p = new Parser(tape.toString());
                p.names = names;
                p.streets = streets;
                p.voters = voters;
                p.own = voter;
                p.units = units(voter);
                Node e = p.e(0);
                p.take("");
                now.ballots[voter] = e;
                cached = null;
                return units(-1);
            } catch (Fault f) {
                faultWhich = f.which;
                faultPlace = f.place;
                return -1;
            } finally {
                tape.setLength(0);
            }
        }

        int fault(int what) {
            return what == 0 ? faultWhich : what == 1 ? faultPlace : -1;
        }

        boolean noVoter(int v) {
            return v < 0 || v >= voters.size();
        }

        boolean noMark(int m) {
            return m < 0 || m > names.size();
        }

        boolean noName(int m) {
            return m < 0 || m >= names.size();
        }

        // --- what ballots say

        int votes(int own, int street, int mark, int[] row) {
            int sum = 0;
            for (int v = 0; v < voters.size(); v++) {
                if (v != own && (street < 0 || voters.get(v).street == street) && row[v] == mark) {
                    sum += voters.get(v).weight;
                }
            }
            return sum;
        }

        int value(Node n, int own, int[] row) {
            int x = n.parts.isEmpty() ? 0 : value(n.parts.get(0), own, row);
            int y = n.parts.size() < 2 ? 0 : value(n.parts.get(1), own, row);
            return switch (n.what) {
                case "number" -> n.a;
                case "votes" -> votes(own, n.b, n.a, row);
                case "is" -> row[n.b] == n.a ? 1 : 0;
                case "brackets" -> x;
                case "not" -> x == 0 ? 1 : 0;
                case "or" -> x != 0 || y != 0 ? 1 : 0;
                case "and" -> x != 0 && y != 0 ? 1 : 0;
                case "<" -> x < y ? 1 : 0;
                case ">" -> x > y ? 1 : 0;
                case "=" -> x == y ? 1 : 0;
                case "+" -> x + y;
                case "-" -> x - y;
                default -> throw new IllegalStateException(n.what);
            };
        }

        int said(Node n, int own, int[] row) {
            if (n == null) {
                return 0;
            }
            switch (n.what) {
                case "if":
                    return said(n.parts.get(value(n.parts.get(0), own, row) != 0 ? 1 : 2), own, row);
                case "mark":
                    return n.a;
                case "as":
                    return row[n.a];
                default:
            }
            int best = 0;
            for (int m = names.size(); m >= 1; m--) {
                int here = votes(own, n.b, m, row);
                int there = best == 0 ? -1 : votes(own, n.b, best, row);
                if (n.what.equals("most") ? here > 0 && here >= there : best == 0 || here <= there) {
                    best = m;
                }
            }
            return best;
        }

        List<int[]> allRows() {
            List<int[]> all = new ArrayList<>();
            all.add(new int[0]);
            for (int v = 0; v < voters.size(); v++) {
                List<int[]> longer = new ArrayList<>();
                for (int[] row : all) {
                    for (int m = 0; m <= names.size(); m++) {
                        int[] next = Arrays.copyOf(row, v + 1);
                        next[v] = m;
                        longer.add(next);
                    }
                }
                all = longer;
            }
            return all;
        }

        boolean keeps(int[] row, int set) {
            for (int v = 0; v < voters.size(); v++) {
                if ((set >> v & 1) == 1 && said(now.ballots[v], v, row) != row[v]) {
                    return false;
                }
            }
            return true;
        }

        List<int[]> countings() {
            if (cached == null) {
                cached = countingsNow();
            }
            return cached;
        }

        List<int[]> countingsNow() {
            List<int[]> found = new ArrayList<>();
            for (int[] row : allRows()) {
                if (keeps(row, 255)) {
                    found.add(row);
                }
            }
            return found;
        }

        int counting(int i, int voter) {
            return i >= countings().size() || noVoter(voter) ? -1 : countings().get(i)[voter];
        }

        int chosenIn(int[] row) {
            for (int m = 1; m <= names.size(); m++) {
                boolean greatest = votes(-1, -1, m, row) > 0;
                for (int o = 1; o <= names.size(); o++) {
                    greatest &= o == m || votes(-1, -1, o, row) < votes(-1, -1, m, row);
                }
                if (greatest) {
                    return m - 1;
                }
            }
            return -1;
        }

        int chosen(int i) {
            return i >= countings().size() ? -2 : chosenIn(countings().get(i));
        }

        int wins(int name) {
            List<int[]> all = countings();
            if (noName(name) || all.isEmpty()) {
                return -1;
            }
            long won = all.stream().filter(r -> chosenIn(r) == name).count();
            return won == all.size() ? 2 : won > 0 ? 1 : 0;
        }

        int says(int v) {
            return noVoter(v) ? -1 : said(now.ballots[v], v, now.marks);
        }

        void look(Node n, int own, boolean[] seen) {
            if (n == null) {
                return;
            }
            if (n.what.equals("as")) {
                seen[n.a] = true;
            } else if (n.what.equals("is")) {
                seen[n.b] = true;
            } else if (Set.of("most", "fewest", "votes").contains(n.what)) {
                for (int v = 0; v < voters.size(); v++) {
                    if (v != own && (n.b < 0 || voters.get(v).street == n.b)) {
                        seen[v] = true;
                    }
                }
            }
            for (Node p : n.parts) {
                look(p, own, seen);
            }
        }

        int looks(int v) {
            if (noVoter(v)) {
                return -1;
            }
            boolean[] seen = new boolean[8];
            look(now.ballots[v], v, seen);
            int bits = 0;
            for (int i = 0; i < 8; i++) {
                bits |= seen[i] ? 1 << i : 0;
            }
            return bits;
        }

        void walk(int v, boolean[] seen) {
            if (!seen[v]) {
                seen[v] = true;
                for (int o = 0; o < voters.size(); o++) {
                    if ((looks(v) >> o & 1) == 1) {
                        walk(o, seen);
                    }
                }
            }
        }

        int part(int v) {
            if (noVoter(v)) {
                return -1;
            }
            boolean[] from = new boolean[8];
            walk(v, from);
            int bits = 0;
            for (int o = 0; o < voters.size(); o++) {
                boolean[] back = new boolean[8];
                walk(o, back);
                bits |= from[o] && back[v] ? 1 << o : 0;
            }
            return bits;
        }

        int telling() {
            if (!countings().isEmpty()) {
                return -1;
            }
            List<int[]> rows = allRows();
            for (int many = 0; many <= voters.size(); many++) {
                for (int set = 0; set < 1 << voters.size(); set++) {
                    int s = set;
                    if (Integer.bitCount(set) == many && rows.stream().noneMatch(r -> keeps(r, s))) {
                        return set;
                    }
                }
            }
            throw new IllegalStateException();
        }

        boolean mark(int v, int m) {
            if (noVoter(v) || noMark(m)) {
                return false;
            }
            now.marks[v] = m;
            return true;
        }

        int open(int v) {
            if (noVoter(v)) {
                return -1;
            }
            return now.marks[v] = says(v);
        }

        int has(int v) {
            return noVoter(v) ? -1 : now.marks[v];
        }

        int judge() {
            for (int v = 0; v < voters.size(); v++) {
                if (says(v) != now.marks[v]) {
                    return v;
                }
            }
            return -1;
        }

        int someOrder(Dice dice) {
            List<String> digits = new ArrayList<>();
            for (int v = 0; v < voters.size(); v++) {
                digits.add(dice.below(digits.size() + 1), "" + (v + 1));
            }
            String s = String.join("", digits);
            if (dice.one(6)) {
                s += dice.below(10);
            }
            if (dice.one(6) && s.length() > 1) {
                s = s.substring(1);
            }
            return (dice.one(20) ? -1 : 1) * (s.isEmpty() ? 0 : Integer.parseInt(s));
        }

        int rest(int order) {
            String s = order == 0 ? "" : "" + order;
            char[] sorted = s.toCharArray();
            Arrays.sort(sorted);
            StringBuilder want = new StringBuilder();
            for (int v = 1; v <= voters.size(); v++) {
                want.append(v);
            }
            if (!new String(sorted).equals(want.toString())) {
                return -2;
            }
            int[] row = new int[8];
            int last = 0;
            for (int round = 1; round <= 41; round++) {
                for (char c : s.toCharArray()) {
                    int v = c - '1';
                    int says = said(now.ballots[v], v, row);
                    if (says != row[v]) {
                        last = round;
                    }
                    row[v] = says;
                }
            }
            return last == 41 ? -1 : last;
        }

        void orders(String head, List<String> all) {
            if (head.length() == voters.size()) {
                all.add(head);
            }
            for (int v = 1; v <= voters.size(); v++) {
                if (head.indexOf("" + v) < 0) {
                    orders(head + v, all);
                }
            }
        }

        int soonest(int what) {
            List<String> all = new ArrayList<>();
            orders("", all);
            int best = -1;
            String first = null;
            for (String s : all) {
                int r = rest(s.isEmpty() ? 0 : Integer.parseInt(s));
                if (r >= 0 && (best < 0 || r < best)) {
                    best = r;
                    first = s;
                }
            }
            if (best < 0) {
                return -1;
            }
            return what == 0 ? best : first.isEmpty() ? 0 : Integer.parseInt(first);
        }

        int sway(int name, int what) {
            if (noName(name) || what < 0 || what > 2) {
                return -1;
            }
            Node[] before = now.ballots.clone();
            for (int many = 0; many <= 3; many++) {
                for (int set = 0; set < 1 << voters.size(); set++) {
                    if (Integer.bitCount(set) != many) {
                        continue;
                    }
                    int end = (int) Math.pow(names.size() + 1, many);
                    for (int told = 0; told < end; told++) {
                        int rest = told;
                        StringBuilder digits = new StringBuilder();
                        for (int v = 7; v >= 0; v--) {
                            if ((set >> v & 1) == 1) {
                                Node n = new Node("mark");
                                n.a = rest % (names.size() + 1);
                                rest /= names.size() + 1;
                                digits.insert(0, n.a);
                                now.ballots[v] = n;
                            }
                        }
                        List<int[]> all = countingsNow();
                        now.ballots = before.clone();
                        if (!all.isEmpty() && all.stream().allMatch(r -> chosenIn(r) == name)) {
                            return what == 0 ? many : what == 1 ? set : many == 0 ? 0 : Integer.parseInt(digits + "");
                        }
                    }
                }
            }
            return -1;
        }

        int more(int street, int mark) {
            if (street < 0 || street >= streets.size() || noMark(mark) || voters.size() == 8) {
                return -1;
            }
            Voter v = new Voter();
            v.street = street;
            v.weight = 1;
            voters.add(v);
            Node n = new Node("mark");
            n.a = mark;
            now.ballots[voters.size() - 1] = n;
            int many = countingsNow().size();
            now.ballots[voters.size() - 1] = null;
            voters.remove(voters.size() - 1);
            return many;
        }

        int hand(int v, int m) {
            if (noVoter(v) || noMark(m) || now.hands.size() == 20) {
                return -1;
            }
            Hand h = new Hand();
            h.voter = v;
            h.mark = m;
            h.told = time;
            now.hands.add(h);
            return now.hands.size() - 1;
        }

        boolean untell(int h) {
            if (h < 0 || h >= now.hands.size() || now.hands.get(h).isUntold) {
                return false;
            }
            now.hands.get(h).isUntold = true;
            now.hands.get(h).untold = time;
            return true;
        }

        int later(int by) {
            if (by < 0 || by > 1000 || time + by > 100000) {
                return -1;
            }
            return time += by;
        }

        List<int[]> leftAt(int k) {
            List<int[]> found = new ArrayList<>();
            for (int[] row : countings()) {
                boolean so = true;
                for (Hand h : now.hands) {
                    boolean counts = h.told <= k && !(h.isUntold && h.untold <= k);
                    so &= !counts || row[h.voter] == h.mark;
                }
                if (so) {
                    found.add(row);
                }
            }
            return found;
        }

        int left(int k) {
            return leftAt(k).size();
        }

        int sure(int v, int k) {
            if (noVoter(v)) {
                return -1;
            }
            long kinds = leftAt(k).stream().map(r -> r[v]).distinct().count();
            return kinds == 0 ? -1 : kinds > 1 ? -2 : leftAt(k).get(0)[v];
        }

        int image(int box) {
            if (box < 0 || box > 2) {
                return -1;
            }
            boxes[box] = now.copy();
            return now.hands.size();
        }

        int back(int box) {
            if (box < 0 || box > 2 || boxes[box] == null) {
                return -1;
            }
            now = boxes[box].copy();
            cached = null;
            return now.hands.size();
        }

        int about(int what) {
            return switch (what) {
                case 0 -> names.size();
                case 1 -> streets.size();
                case 2 -> voters.size();
                case 3 -> told;
                case 4 -> now.hands.size();
                case 5 -> time;
                case 6 -> tape.length();
                case 7 -> units(-1);
                default -> -1;
            };
        }
    }
}
