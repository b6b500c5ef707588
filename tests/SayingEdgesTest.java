/** Terms 2 and 3: for each sentence that names a boundary, calls on both of its sides; the remarks quote it. */
public final class SayingEdgesTest {
    private static final Check CHECK = new Check();
    // Beside a (the one who is asked) b has weight 9 and c 1 in s, d has 4 in t; none is in u, a alone in v.
    private static final String TOWN = "name x;name y;name z;street s;street t;street u;street v;voter a at v weight 7;"
        + "voter b at s weight 9;voter c at s weight 1;voter d at t weight 4;";

    public static void main(String[] args) {
        marks();
        rows();
        questions();
        mostAndFewest();
        votes();
        whatACountingIs();
        whoIsChosen();
        whoLooks();
        parts();
        tellings();
        rounds();
        soonestOrders();
        swayedNames();
        oneMore();
        smallTexts();
        CHECK.close("SayingEdgesTest");
    }

    private static void due(String call, long got, long want) {
        CHECK.due(call, got, want);
    }

    /** Voters a, b, .. in one street s, each of weight 1. */
    private static String voters(int count) {
        StringBuilder text = new StringBuilder("street s;");
        for (int i = 0; i < count; i++) {
            text.append("voter ").append((char) ('a' + i)).append(" at s weight 1;");
        }
        return text.toString();
    }

    /** Ballots by which each goes as the next one, the last one as the first. */
    private static String ring(String voters) {
        StringBuilder text = new StringBuilder();
        for (int i = 0; i < voters.length(); i++) {
            text.append("ballot ").append(voters.charAt(i)).append(" as ")
                .append(voters.charAt((i + 1) % voters.length())).append(";");
        }
        return text.toString();
    }

    /** What a's ballot SAYS in TOWN, if the marks of a, b, c, d are these digits. */
    private static void says(String wording, int marks, int want) {
        BallotRing x = CHECK.ring(TOWN);
        for (int v = 3, rest = marks; v >= 0; v--, rest /= 10) {
            x.mark(v, rest % 10);
        }
        due("reword by " + wording, Check.reword(x, 0, wording) > 0 ? 1 : 0, 1);
        due("says(0) of " + wording + " by " + marks, x.says(0), want);
    }

    /** A question whose value is this one, and neither more nor less. */
    private static void asks(String question, int marks, int value) {
        String number = value < 0 ? "(0 - " + -value + ")" : "" + value;
        says("if (" + question + ") = " + number + " then x else y", marks, 1);
        says("if (" + question + ") < " + number + " then x else y", marks, 2);
        says("if (" + question + ") > " + number + " then x else y", marks, 2);
        says("if " + question + " then x else y", marks, value == 0 ? 2 : 1);
    }

    private static void marks() {
        // Terms 2: "A MARK is 0 (blank), or 1 and the number of a name": with no name to three.
        String names = "";
        for (int count = 0; count <= 3; count++) {
            BallotRing x = CHECK.ring(names + voters(1));
            for (int mark = -1; mark <= 5; mark++) {
                boolean can = mark >= 0 && mark <= count;
                due(count + " names: mark(0," + mark + ")", x.mark(0, mark) ? 1 : 0, can ? 1 : 0);
                due(count + " names: has(0) behind " + mark, x.has(0), Math.max(0, Math.min(mark, count)));
            }
            names += "name n" + "abc".charAt(count % 3) + ";";
        }
        says("x", 0, 1);
        says("z", 0, 3);
        says("blank", 3333, 0);
        says("as d", 3, 3);
        says("as d", 3330, 0);
    }

    private static void rows() {
        // Terms 2: "rows are ordered by number: the first VOTER's MARK counts most".
        BallotRing x = CHECK.ring("name x;name y;" + voters(4) + "ballot a as d;ballot d as a;ballot b as c;ballot c as b;");
        due("countings", x.countings(), 9);
        for (int i = 0; i < 9; i++) {
            due("first of the " + i + "th", x.counting(i, 0), i / 3);
            due("second of the " + i + "th", x.counting(i, 1), i % 3);
            due("third of the " + i + "th", x.counting(i, 2), i % 3);
            due("last of the " + i + "th", x.counting(i, 3), i / 3);
        }
        // Of eight voters, too, and by a ballot that says the other of two.
        BallotRing y = CHECK.ring("name x;" + voters(8) + "ballot a if is h x then blank else x;"
            + "ballot h if is a x then blank else x;");
        due("two rows", y.countings(), 2);
        due("the first row's first", y.counting(0, 0), 0);
        due("the first row's last", y.counting(0, 7), 1);
        due("the second row's first", y.counting(1, 0), 1);
        due("the second row's last", y.counting(1, 7), 0);
    }

    private static void questions() {
        // Terms 2: "if f is not 0 then the first e, else the second": below 0 it is not 0, too.
        says("if 0 then x else y", 0, 2);
        says("if 1 then x else y", 0, 1);
        says("if 0 - 1 then x else y", 0, 1);
        says("if 9999 then x else y", 0, 1);
        says("if 1 - 1 then x else y", 0, 2);
        // Terms 2: "f: ints, wrapping": as far up and down as 80 units go, which no int goes round by.
        says("if 0" + "+9999".repeat(77) + " then x else y", 0, 1);
        says("if 0" + "+9999".repeat(76) + ">0 then x else y", 0, 1);
        says("if 0" + "-9999".repeat(76) + "<0 then x else y", 0, 1);
        says("if 0" + "+9999".repeat(38) + "-9999".repeat(38) + "=0 then x else y", 0, 1);
        says("if 0" + "-9999".repeat(38) + "+9999".repeat(38) + " then x else y", 0, 2);
        // Terms 2: "relations, and, or, not are 1 or 0, of what is not 0".
        for (int a = -2; a <= 2; a++) {
            for (int b = -2; b <= 2; b++) {
                String first = "(2 - " + (2 - a) + ")";
                String second = "(2 - " + (2 - b) + ")";
                asks(first + " < " + second, 0, a < b ? 1 : 0);
                asks(first + " > " + second, 0, a > b ? 1 : 0);
                asks(first + " = " + second, 0, a == b ? 1 : 0);
                asks(first + " and " + second, 0, a != 0 && b != 0 ? 1 : 0);
                asks(first + " or " + second, 0, a != 0 || b != 0 ? 1 : 0);
                asks(first + " + " + second, 0, a + b);
                asks(first + " - " + second, 0, a - b);
            }
            asks("not (2 - " + (2 - a) + ")", 0, a == 0 ? 1 : 0);
            asks("not not (2 - " + (2 - a) + ")", 0, a == 0 ? 0 : 1);
        }
        // Terms 2: "is: 1 if that VOTER has that name's MARK, else 0".
        for (int mark = 0; mark <= 3; mark++) {
            asks("is d x", 3330 + mark, mark == 1 ? 1 : 0);
            asks("is d z", 3330 + mark, mark == 3 ? 1 : 0);
            asks("is b y", 1011 + 100 * mark, mark == 2 ? 1 : 0);
        }
    }

    private static void mostAndFewest() {
        // Terms 2: "most: the name with most VOTES, of like ones the first (blank, if no name has any)".
        says("most", 0, 0);
        says("most", 3000, 0);
        says("most in u", 3333, 0);
        says("most in v", 3333, 0);
        says("most in t", 3330, 0);
        says("most in t", 3, 3);
        says("most", 30, 3);
        says("most in s", 332, 3);
        says("most", 12, 2);
        says("most in s", 320, 3);
        // Terms 2: "fewest: that with fewest, of like ones the first (without names: blank)".
        says("fewest", 0, 1);
        says("fewest", 1000, 1);
        says("fewest in u", 1111, 1);
        says("fewest in v", 1111, 1);
        says("fewest", 1, 2);
        says("fewest", 12, 3);
        says("fewest", 312, 1);
        says("fewest", 321, 2);
        says("fewest", 231, 3);
        says("fewest in t", 1, 2);
        // Of like ones the first, if they have some votes each: b and c are alike for x and y, d has more for z.
        BallotRing x = CHECK.ring("name x;name y;name z;street s;street t;voter a at s weight 1;voter b at s weight 2;"
            + "voter c at s weight 2;voter d at t weight 2;ballot a most;");
        for (int marks : new int[] {123, 132, 213, 231, 312, 321}) {
            x.mark(1, marks / 100);
            x.mark(2, marks / 10 % 10);
            x.mark(3, marks % 10);
            due("most of like ones by " + marks, x.says(0), 1);
        }
        Check.reword(x, 0, "most in s");
        due("most of like ones in s", x.says(0), 2);
        Check.reword(x, 0, "fewest");
        due("fewest of like ones", x.says(0), 1);
        // With no name at all.
        BallotRing none = CHECK.ring(voters(2) + "ballot a most;ballot b fewest;");
        due("most without names", none.says(0), 0);
        due("fewest without names", none.says(1), 0);
        // With one.
        BallotRing one = CHECK.ring("name x;" + voters(2) + "ballot a most;ballot b fewest;");
        due("most with one name", one.says(0), 0);
        due("fewest with one name", one.says(1), 1);
    }

    private static void votes() {
        // Terms 2: "VOTES: weights of all OTHER VOTERS (than the ballot's)".
        asks("votes x", 1111, 14);
        asks("votes x", 1000, 0);
        asks("votes x", 111, 14);
        asks("votes z", 3333, 14);
        asks("votes z", 2222, 0);
        asks("blanks", 0, 14);
        asks("blanks", 111, 0);
        asks("blanks", 1, 10);
        // Terms 2: "of the STREET behind in, if there is one": full, of the own one alone, empty.
        asks("votes x in s", 1111, 10);
        asks("votes x in t", 1111, 4);
        asks("votes x in u", 1111, 0);
        asks("votes x in v", 1111, 0);
        asks("blanks in s", 0, 10);
        asks("blanks in u", 0, 0);
        asks("blanks in v", 0, 0);
        // The most VOTES that there can be: seven others of weight 9.
        BallotRing x = CHECK.ring("name x;" + voters(8).replace("weight 1", "weight 9")
            + "ballot h if votes x = 63 then x else blank;ballot a if blanks = 63 then x else blank;");
        due("63 blanks", x.says(0), 1);
        for (int v = 0; v < 7; v++) {
            due("below 63 votes", x.says(7), 0);
            x.mark(v, 1);
        }
        due("63 votes", x.says(7), 1);
        due("below 63 blanks", x.says(0), 0);
    }

    private static void whatACountingIs() {
        // Terms 2: "A COUNTING: a ROW by which each ballot SAYS just its VOTER's MARK": of no voter there is one row.
        BallotRing empty = new BallotRing();
        due("countings() without voters", empty.countings(), 1);
        due("counting(0,0) without voters", empty.counting(0, 0), -1);
        due("countings() without names", CHECK.ring(voters(8) + ring("abcdefgh")).countings(), 1);
        // Without ballots: all blanks alone.
        BallotRing blank = CHECK.ring("name x;name y;name z;" + voters(8));
        due("countings() without ballots", blank.countings(), 1);
        for (int v = 0; v < 8; v++) {
            due("counting(0," + v + ") without ballots", blank.counting(0, v), 0);
        }
        // One that is kept by all but one ballot is none.
        BallotRing x = CHECK.ring("name x;" + voters(3) + "ballot a as b;ballot b as c;ballot c if is a x then blank else x;");
        due("a ring against itself", x.countings(), 0);
        Check.reword(x, 2, "as a");
        due("a ring with itself", x.countings(), 2);
    }

    private static void whoIsChosen() {
        // Terms 2: "CHOSEN: the name whose weights of all VOTERS together are greater than each other one's".
        String town = "name x;name y;name z;street s;voter a at s weight 4;voter b at s weight 3;voter c at s weight 2;"
            + "voter d at s weight 1;";
        String[] marks = {"blank", "x", "y", "z"};
        for (int row = 0; row < 256; row++) {
            int[] weights = new int[4];
            StringBuilder text = new StringBuilder(town);
            for (int v = 0; v < 4; v++) {
                int mark = row >> 2 * v & 3;
                weights[mark] += 4 - v;
                text.append("ballot ").append("abcd".charAt(v)).append(' ').append(marks[mark]).append(';');
            }
            int want = -1;
            for (int m = 1; m <= 3; m++) {
                boolean greatest = weights[m] > 0;
                for (int other = 1; other <= 3; other++) {
                    greatest &= other == m || weights[m] > weights[other];
                }
                want = greatest ? m - 1 : want;
            }
            due("chosen(0) of " + text, CHECK.ring(text.toString()).chosen(0), want);
        }
        // Terms 2: "(and above 0); none, if there is none such": one name that none is for, no name, no voter.
        due("one name, all blank", CHECK.ring("name x;" + voters(2)).chosen(0), -1);
        due("no name", CHECK.ring(voters(2)).chosen(0), -1);
        due("no voter", CHECK.ring("name x;").chosen(0), -1);
        due("one voter for one name", CHECK.ring("name x;" + voters(1) + "ballot a x;").chosen(0), 0);
    }

    private static void looks(String wording, int want) {
        BallotRing x = CHECK.ring(TOWN);
        Check.reword(x, 0, wording);
        due("looks(0) of " + wording, x.looks(0), want);
    }

    private static void whoLooks() {
        // Terms 2: "a ballot looks at the VOTERS behind its as and is, and at all others (of the STREET behind in) by its
        // most, fewest, votes, blanks": none, one, all others; never at the own one.
        looks("x", 0);
        looks("blank", 0);
        looks("if 1 then x else y", 0);
        looks("as d", 8);
        looks("if is b x then as c else x", 6);
        looks("most", 14);
        looks("fewest", 14);
        for (String kind : new String[] {"most", "fewest"}) {
            looks(kind + " in s", 6);
            looks(kind + " in t", 8);
            looks(kind + " in u", 0);
            looks(kind + " in v", 0);
        }
        for (String kind : new String[] {"votes x", "blanks"}) {
            looks("if " + kind + " then x else y", 14);
            looks("if " + kind + " in s then x else y", 6);
            looks("if " + kind + " in t then x else y", 8);
            looks("if " + kind + " in u then x else y", 0);
            looks("if " + kind + " in v then x else y", 0);
        }
        // A way that is never gone is looked along, too.
        looks("if 0 then as b else if 1 then x else most in t", 10);
        looks("if 0 and is b x then x else y", 2);
        BallotRing full = CHECK.ring("name x;" + voters(8) + "ballot h blank;ballot a most;");
        due("the first of eight looks at all others", full.looks(0), 0xFE);
        Check.reword(full, 7, "fewest in s");
        due("the last of eight looks at all others", full.looks(7), 0x7F);
    }

    private static void parts() {
        // Terms 2: "PART of a VOTER: all who can be come to from that one by looks, and from whom that one can be (that
        // one, too)": alone, a way without a way back, all of eight.
        due("alone", CHECK.ring(voters(1)).part(0), 1);
        BallotRing x = CHECK.ring("name x;" + voters(8) + ring("abcdefgh"));
        for (int v = 0; v < 8; v++) {
            due("all of eight: part(" + v + ")", x.part(v), 0xFF);
        }
        Check.reword(x, 7, "blank");
        for (int v = 0; v < 8; v++) {
            due("a way alone: part(" + v + ")", x.part(v), 1 << v);
        }
        Check.reword(x, 3, "as a");
        due("four in a ring", x.part(2), 0x0F);
        due("four who look on", x.part(4), 0x10);
        // Against the order of the numbers, so that each turn finds but one more.
        BallotRing back = CHECK.ring("name x;" + voters(8) + ring("hgfedcba"));
        due("all of eight, backwards", back.part(0), 0xFF);
        due("all of eight, backwards", back.part(7), 0xFF);
        due("a street without anyone else", CHECK.ring("name x;" + voters(1) + "ballot a most;").part(0), 1);
    }

    private static void tellings() {
        // Terms 2: "none, if there is a COUNTING".
        due("telling() without voters", new BallotRing().telling(), -1);
        due("telling() with a counting", CHECK.ring(voters(2)).telling(), -1);
        // Terms 2: "TELLING: the least set .. the fewest": three of small numbers, two of great ones.
        BallotRing x = CHECK.ring("name x;" + voters(5) + "ballot a as b;ballot b as c;ballot c if is a x then blank else x;"
            + "ballot d as e;ballot e if is d x then blank else x;");
        due("the fewest", x.telling(), 0b11000);
        Check.reword(x, 3, "blank");
        due("three alone", x.telling(), 0b00111);
        Check.reword(x, 2, "as a");
        due("a counting then", x.telling(), -1);
        // Terms 2: "of like ones the least number (as bits)".
        BallotRing y = CHECK.ring("name x;" + voters(4) + "ballot a as d;ballot d if is a x then blank else x;"
            + "ballot b as c;ballot c if is b x then blank else x;");
        due("of like ones the least", y.telling(), 0b0110);
        Check.reword(y, 1, "x");
        due("the other one", y.telling(), 0b1001);
        // Terms 2: "(all others have any MARKS)": a and b can agree while c has not x.
        BallotRing z = CHECK.ring("name x;" + voters(3) + "ballot a as b;ballot c x;"
            + "ballot b if is c x then if is a x then blank else x else as a;");
        due("two and a third one", z.telling(), 0b111);
        Check.reword(z, 2, "blank");
        due("they agree", z.telling(), -1);
        // All of eight.
        BallotRing all = CHECK.ring("name x;" + voters(8) + ring("abcdefgh"));
        Check.reword(all, 7, "if is a x then blank else x");
        due("all of eight", all.telling(), 0xFF);
    }

    private static void rounds() {
        // Terms 3: "ROUNDS begin with all MARKS 0", not with those in earnest, which stay.
        BallotRing x = CHECK.ring("name x;" + voters(2) + "ballot a as b;ballot b as a;");
        x.mark(0, 1);
        x.mark(1, 1);
        due("rest(12) begins with blanks", x.rest(12), 0);
        due("has(0) stays", x.has(0), 1);
        Check.reword(x, 0, "x");
        x.mark(1, 0);
        due("rest(12)", x.rest(12), 1);
        due("rest(21)", x.rest(21), 2);
        due("has(1) stays", x.has(1), 0);
        // Terms 3: "VOTER by VOTER, each takes what the ballot SAYS of the MARKS as they are then".
        BallotRing chain = CHECK.ring("name x;" + voters(8) + ring("abcdefgh"));
        Check.reword(chain, 7, "x");
        due("eight against the order", chain.rest(12345678), 8);
        due("eight in order", chain.rest(87654321), 1);
        // Terms 3: "REST: behind how many ROUNDS nothing changes any more (0 .. 40); none, if something changes in the
        // 41st". In the order 1 .. 8 a mark of h comes to a in the eighth round, and so on, one voter a round.
        BallotRing y = CHECK.ring("name x;name y;name z;" + voters(8) + ring("abcdefgh"));
        due("all blank: behind none", y.rest(12345678), 0);
        Check.reword(y, 7, "if is d y then x else if is d z then z else if is c z then z else if is a y then y else "
            + "if is a x and is a x then z else y");
        due("behind 39", y.rest(12345678), 39);
        Check.reword(y, 7, "if is g y and is a z then x else if is e z and is b z then y else if is a y then y else "
            + "if is c y then y else z");
        due("behind 40", y.rest(12345678), 40);
        Check.reword(y, 7, "if is f x then z else if is g y and is d y then x else if is b y and is d z then z else "
            + "if is b z then z else if is g x then x else y");
        due("something changes in the 41st", y.rest(12345678), -1);
        // Never at rest, by two, and by one that is nowhere told so.
        BallotRing never = CHECK.ring("name x;" + voters(2) + "ballot a as b;ballot b if is a x then blank else x;");
        due("never at rest", never.rest(12), -1);
        due("never at rest the other way", never.rest(21), -1);
    }

    private static void soonestOrders() {
        // Terms 3: "SOONEST: of all orders that one of least REST; of like ones the first (by who comes first, ..)".
        BallotRing x = CHECK.ring("name x;" + voters(3) + "ballot a as b;ballot b as c;ballot c x;");
        due("the last order of all: its rest", x.soonest(0), 1);
        due("the last order of all", x.soonest(1), 321);
        Check.reword(x, 0, "blank");
        due("of like ones the first", x.soonest(1), 132);
        Check.reword(x, 2, "blank");
        due("of all that are alike the first", x.soonest(1), 123);
        due("behind none", x.soonest(0), 0);
        // Terms 3: "none, if none rests".
        BallotRing never = CHECK.ring("name x;" + voters(2) + "ballot a as b;ballot b if is a x then blank else x;");
        due("none rests", never.soonest(0), -1);
        due("none rests", never.soonest(1), -1);
        // Some rest, and the first order does not.
        BallotRing some = CHECK.ring("name x;name y;" + voters(3) + "ballot a if is b x then blank else if is c x then y "
            + "else x;ballot b if is a x then x else if is c x then x else blank;ballot c if is a y then x else blank;");
        int first = some.rest(123);
        int best = -1;
        int bestOrder = -1;
        for (int order : new int[] {123, 132, 213, 231, 312, 321}) {
            int rest = some.rest(order);
            if (rest >= 0 && (best < 0 || rest < best)) {
                best = rest;
                bestOrder = order;
            }
        }
        due("never at rest in the first order", first, -1);
        due("by all orders one by one", some.soonest(0), best);
        due("by all orders one by one", some.soonest(1), bestOrder);
        // One voter, none, all of eight.
        due("one voter", CHECK.ring(voters(1)).soonest(1), 1);
        due("no voter", new BallotRing().soonest(1), 0);
        BallotRing all = CHECK.ring("name x;" + voters(8) + ring("abcdefgh"));
        Check.reword(all, 7, "x");
        due("all of eight: the last order of all", all.soonest(1), 87654321);
        due("all of eight: its rest", all.soonest(0), 1);
    }

    private static void swayed(BallotRing x, int name, int many, int set, int marks) {
        due("sway(" + name + ",0)", x.sway(name, 0), many);
        due("sway(" + name + ",1)", x.sway(name, 1), set);
        due("sway(" + name + ",2)", x.sway(name, 2), marks);
    }

    private static void swayedNames() {
        // Terms 3: "SWAY: the fewest VOTERS (0 .. 3) whose ballots, changed to told MARKS, make it CHOSEN in all
        // COUNTINGS": the last of eight is for y, and so many others for x; of seven for x, three are not enough.
        int[][] want = {{0, 0, 0}, {1, 1, 0}, {1, 1, 2}, {2, 3, 2}, {2, 3, 22}, {3, 7, 22}, {3, 7, 222}, {-1, -1, -1}};
        for (int forX = 0; forX < want.length; forX++) {
            BallotRing x = CHECK.ring("name x;name y;" + voters(8) + "ballot h y;");
            for (int v = 0; v < forX; v++) {
                Check.reword(x, v, "x");
            }
            swayed(x, 1, want[forX][0], want[forX][1], want[forX][2]);
        }
        // Terms 3: "in all COUNTINGS that there are then": in some is not enough.
        BallotRing some = CHECK.ring("name x;name y;" + voters(2) + "ballot a as b;ballot b as a;");
        due("x in some", some.wins(0), 1);
        swayed(some, 0, 1, 1, 1);
        swayed(some, 1, 1, 1, 2);
        // Terms 3: "(one at least)": a and b can't agree, so c's change alone leaves no COUNTING at all.
        BallotRing none = CHECK.ring("name x;name y;street s;voter a at s weight 1;voter b at s weight 1;"
            + "voter c at s weight 9;ballot a as b;ballot b if is a x then y else x;ballot c y;");
        due("no counting", none.countings(), 0);
        swayed(none, 0, 2, 5, 0);
        swayed(none, 1, 1, 1, 0);
        // Terms 3: "of like ones the least set (as bits)": b, or c, but not a, whose weight is too small.
        BallotRing set = CHECK.ring("name x;name y;street s;voter a at s weight 1;voter b at s weight 3;"
            + "voter c at s weight 3;ballot a x;ballot b y;ballot c y;");
        swayed(set, 0, 1, 2, 1);
        // Terms 3: "then the least MARKS (by number of VOTER, the first counts most)": 02 before 20, and before 22.
        BallotRing marks = CHECK.ring("name x;name y;" + voters(3) + "ballot a x;ballot b x;ballot c x;");
        swayed(marks, 1, 2, 3, 22);
        Check.reword(marks, 2, "blank");
        swayed(marks, 1, 2, 3, 2);
        // The last of the names, by the last of the voters; without voters none; all three of three.
        BallotRing last = CHECK.ring("name x;name y;name z;" + voters(8).replace("h at s weight 1", "h at s weight 9")
            + "ballot a x;ballot b x;");
        swayed(last, 2, 1, 128, 3);
        swayed(CHECK.ring("name x;"), 0, -1, -1, -1);
        swayed(CHECK.ring("name x;" + voters(1)), 0, 1, 1, 1);
        // As y goes as x goes against it, the mark that is told need not be the name's.
        BallotRing against = CHECK.ring("name x;name y;street s;voter a at s weight 1;voter b at s weight 9;"
            + "ballot b if is a x then y else x;");
        swayed(against, 1, 1, 1, 1);
    }

    private static void oneMore() {
        // Terms 3: "MORE: how many COUNTINGS there would be with one VOTER more (weight 1, the last one) in a STREET, who
        // has a told MARK": a goes by how many votes there are.
        BallotRing x = CHECK.ring("name x;name y;street s;street t;voter a at s weight 5;voter b at s weight 5;"
            + "ballot b as a;ballot a if votes x + votes y = 1 then as b else blank;");
        due("weight 1 in a street", x.more(0, 1), 1);
        due("b is for a as well", x.countings(), 1);
        Check.reword(x, 1, "blank");
        Check.reword(x, 0, "if votes x in t = 1 then as b else if votes y in s = 1 then y else x");
        due("x in t: a has b's blank", x.more(1, 1), 1);
        // The one more is looked at by most, fewest, votes and blanks, in that STREET alone, and looks at none.
        Check.reword(x, 1, "as a");
        due("x in t: a and b are alike", x.more(1, 1), 3);
        due("x in s: a says x", x.more(0, 1), 1);
        due("y in s: none stands", x.more(0, 2), 0);
        due("blank in t: a says x", x.more(1, 0), 1);
        Check.reword(x, 0, "if blanks in t = 1 then as b else x");
        due("blank in t: they are alike", x.more(1, 0), 3);
        due("x in t: a says x", x.more(1, 1), 1);
        Check.reword(x, 0, "most in t");
        due("most in t is y", x.more(1, 2), 1);
        Check.reword(x, 0, "if votes x in t > 1 then as b else x");
        due("weight 1, not above", x.more(1, 1), 1);
        // Without one more they go on as before.
        due("voters stay", x.about(2), 2);
        due("countings stay", x.countings(), 1);
        // None, one, many: seven voters and one more is the most; no voter and one more.
        BallotRing never = CHECK.ring("name x;" + voters(2) + "ballot a as b;ballot b if is a x then blank else x;");
        due("none", never.more(0, 0), 0);
        due("without voters", CHECK.ring("name x;street s;").more(0, 1), 1);
        due("without names", CHECK.ring("street s;").more(0, 0), 1);
        due("seven voters", CHECK.ring("name x;name y;name z;" + voters(7) + ring("abcdefg")).more(0, 3), 4);
        BallotRing seven = CHECK.ring("name x;name y;name z;" + voters(7) + "ballot a as b;ballot b as a;ballot c as d;"
            + "ballot d as c;ballot e as f;ballot f as e;ballot g fewest;");
        due("seven voters, many countings", seven.more(0, 1), 64);
    }

    private static void smallTexts() {
        BallotRing x = new BallotRing();
        // Terms 3: "a row of 2 to the power of (n - 1) bits .. all such, numbered (the first VOTER's row counts most). By
        // clause 0 all; 1 ELDERS: each does alike, whatever those told behind him do; 2 GROWS: none puts his hand down as
        // others put theirs up. How many TEXTS there are by it, how many of these have no COUNTING, the first one that has
        // none, the most COUNTINGS that one has".
        int[][][] want = {{{16, 2, 6, 2}, {8, 0, -1, 1}, {9, 0, -1, 2}},
            {{4096, 962, 20, 4}, {128, 0, -1, 1}, {216, 0, -1, 2}}};
        for (int n = 2; n <= 3; n++) {
            for (int clause = 0; clause <= 2; clause++) {
                int[] tried = triedOut(n, clause);
                for (int what = 0; what < 4; what++) {
                    String call = "shown(" + n + "," + clause + "," + what + ")";
                    due(call, x.shown(n, clause, what), want[n - 2][clause][what]);
                    due(call + " tried out", tried[what], want[n - 2][clause][what]);
                }
            }
        }
    }

    /** What SHOWN is, by trying out each text. */
    private static int[] triedOut(int n, int clause) {
        int[] found = {0, 0, -1, 0};
        int bits = 1 << n - 1;
        for (int text = 0; text < 1 << n * bits; text++) {
            boolean holds = true;
            int countings = 0;
            for (int hands = 0; hands < 1 << n; hands++) {
                boolean counting = true;
                for (int v = 0; v < n; v++) {
                    int does = does(n, text, v, hands);
                    counting &= does == (hands >> v & 1);
                    for (int other = 0; other < n; other++) {
                        int then = does(n, text, v, hands | 1 << other);
                        holds &= clause != 1 || other <= v || does == then;
                        holds &= clause != 2 || other == v || does <= then;
                    }
                }
                countings += counting ? 1 : 0;
            }
            if (holds) {
                found[0]++;
                found[1] += countings == 0 ? 1 : 0;
                found[2] = countings == 0 && found[2] < 0 ? text : found[2];
                found[3] = Math.max(found[3], countings);
            }
        }
        return found;
    }

    private static int does(int n, int text, int voter, int hands) {
        int bits = 1 << n - 1;
        int row = text / (1 << bits * (n - 1 - voter)) % (1 << bits);
        int others = 0;
        int bit = 1;
        for (int other = 0; other < n; other++) {
            if (other != voter) {
                others += bit * (hands >> other & 1);
                bit *= 2;
            }
        }
        return row >> others & 1;
    }
}
