/** Each promise by its number: ordinary inputs, edges, wrong inputs. */
public final class PromisesTest {
    private static final Check CHECK = new Check();
    private static final int[] OUT = {-1, Integer.MIN_VALUE, Integer.MAX_VALUE, 100};

    // Ann goes by Bob, Bob against Ann, Cyd by both.
    private static final String RING = "name red;name blue;street s;voter ann at s weight 2;voter bob at s weight 1;"
        + "voter cyd at s weight 1;ballot ann as bob;ballot bob if is ann red then blue else red;ballot cyd most;";
    // Three who go by each other: all rows of one mark stand.
    private static final String ALIKE = "name x;name y;street s;street t;voter a at s weight 1;voter b at s weight 1;"
        + "voter c at t weight 3;ballot a as b;voter d at t weight 1;ballot b as c;ballot c as a;ballot d y;";
    private static final String EIGHT = "name x;name y;name z;street s;street t;"
        + "voter a at s weight 1;voter b at s weight 1;voter c at s weight 1;voter d at s weight 1;"
        + "voter e at t weight 1;voter f at t weight 1;voter g at t weight 1;voter h at t weight 9;";

    public static void main(String[] args) {
        promises1To6();
        promises7To10();
        promises11To14();
        saying();
        promises15To18();
        promises19And20();
        promise21();
        promise22();
        promise23();
        promises24To28();
        promises29And30();
        promise31();
        CHECK.close("PromisesTest");
    }

    private static void due(String call, long got, long want) {
        CHECK.due(call, got, want);
    }

    private static void due(String call, boolean got, boolean want) {
        CHECK.due(call, got, want);
    }

    private static void promises1To6() {
        BallotRing x = new BallotRing();
        for (int what = 0; what < 8; what++) {
            due("1: about(" + what + ")", x.about(what), 0);
        }
        due("1: countings()", x.countings(), 1);
        due("1: rest(0)", x.rest(0), 0);
        due("1: judge()", x.judge(), -1);
        due("6: fault(0)", x.fault(0), 0);
        due("6: fault(1)", x.fault(1), -1);
        due("6: fault(2)", x.fault(2), -1);
        due("6: fault(-1)", x.fault(-1), -1);

        due("2: feed", x.feed(0x6e616d65, 0x20783b20, 0x80ffffff, -1, 0), 20);
        due("4: roll of what isn't a text", x.roll(), -1);
        due("6: its fault", x.fault(0), 1);
        due("6: its place: the highest byte comes first", x.fault(1), 8);
        due("4: the tape is empty behind a fault, too", x.about(6), 0);
        due("3: end of an empty one", x.end(1), -1);
        due("2: feed begins anew", x.feed(0x6e616d65, 0x20783b20, 0x80ffffff, -1, 0), 20);
        due("6: the fault stays", x.fault(1), 8);
        due("3: end below 0", x.end(-1), -1);
        due("3: end above", x.end(21), -1);
        due("3: end least", x.end(Integer.MIN_VALUE), -1);
        due("3: all as it was", x.about(6), 20);
        due("3: end(20)", x.end(20), 20);
        due("3: end(7)", x.end(7), 7);
        due("3: end(8)", x.end(8), -1);
        due("4: roll of its beginning", x.roll(), 0);
        due("4: one name", x.about(0), 1);
        due("4: the tape is empty then", x.about(6), 0);
        due("3: end(0)", x.end(0), 0);
        feedBlanks(x, 80);
        due("2: feed above 1,600", x.feed(0, 0, 0, 0, 0), -1);
        due("2: nothing came", x.about(6), 1600);
        due("3: end(1581)", x.end(1581), 1581);
        due("2: feed to 1,601", x.feed(0, 0, 0, 0, 0), -1);
        due("3: end(1580)", x.end(1580), 1580);
        due("2: feed to 1,600", x.feed(0x20202020, 0x20202020, 0x20202020, 0x20202020, 0x20202025), 1600);
        due("4: roll of a long one with a fault", x.roll(), -1);
        due("6: its last byte", x.fault(1), 1599);
        feedBlanks(x, 80);
        due("3: end(1599)", x.end(1599), 1599);
        due("4: roll of blanks", x.roll(), 0);
        faultyRolls();
        rewording();
    }

    private static void feedBlanks(BallotRing x, int times) {
        for (int i = 1; i <= times; i++) {
            due("2: feed " + i, x.feed(0x20202020, 0x20202020, 0x20202020, 0x20202020, 0x0a0a0a0a), 20 * i);
        }
    }

    private static void faultyRolls() {
        BallotRing x = CHECK.ring(RING);
        due("4: voters", x.about(2), 3);
        x.mark(0, 2);
        x.hand(1, 1);
        x.later(5);
        x.image(2);
        due("4: a roll with a fault", Check.roll(x, "name x;%"), -1);
        due("4: the tape is empty", x.about(6), 0);
        due("4: the roll stays", x.about(0), 2);
        due("4: units stay", x.about(7), 5);
        due("4: ballots stay", x.telling(), 3);
        due("4: marks stay", x.has(0), 2);
        due("4: hands stay", x.about(4), 1);
        due("4: boxes stay", x.back(2), 1);
        due("4: the time stays", x.about(5), 5);
        due("4: an empty tape is a roll without anyone", x.roll(), 0);
        due("4: its fault is none", x.fault(0), 0);
        due("4: no names then", x.about(0), 0);
        Check.roll(x, RING);
        x.mark(0, 2);
        x.hand(1, 1);
        x.image(2);
        due("4: a roll", Check.roll(x, RING), 3);
        due("4: marks are 0 then", x.has(0), 0);
        due("4: hands are none then", x.about(4), 0);
        due("4: boxes are empty then", x.back(2), -1);
        due("4: the time stays", x.about(5), 5);
    }

    private static void rewording() {
        BallotRing x = CHECK.ring(RING);
        due("5: countings before", x.countings(), 0);
        due("5: reword", Check.reword(x, 1, "as ann"), 3);
        due("5: the tape is empty then", x.about(6), 0);
        due("5: countings then", x.countings(), 3);
        x.hand(0, 1);
        x.mark(2, 1);
        due("5: a fault", Check.reword(x, 1, "as bob"), -1);
        due("6: fault(0)", x.fault(0), 3);
        due("6: fault(1)", x.fault(1), 3);
        due("5: the ballot stays", x.countings(), 3);
        due("5: hands stay behind a fault", x.about(4), 1);
        due("5: marks stay behind a fault", x.has(2), 1);
        due("5: units stay", x.about(7), 3);
        due("5: the tape is empty behind a fault, too", x.about(6), 0);
        Check.write(x, "as ann");
        for (int out : OUT) {
            due("5: reword(" + out + ")", x.reword(out), -2);
        }
        due("5: reword(3)", x.reword(3), -2);
        due("5: the tape stays where no voter is", x.about(6), 6);
        due("6: the fault is not of a -2", x.fault(0), 3);
        due("5: the tape that stayed", x.reword(1), 3);
        due("5: an empty tape is no wording", x.reword(1), -1);
        due("6: its fault", x.fault(0), 2);
        due("6: its place", x.fault(1), 0);
        due("5: reword by a question", Check.reword(x, 2, "if is ann red then as bob else blank"), 5);
        due("5: hands stay", x.about(4), 1);
        due("5: marks stay", x.has(2), 1);
        due("5: looks anew", x.looks(2), 3);
        BallotRing y = CHECK.ring("name x;street s;voter a at s weight 1;voter b at s weight 1;");
        due("5: a voter without a ballot", Check.reword(y, 0, "as b"), 1);
        due("31: ballots told in the roll", y.about(3), 0);
        due("5: says", y.looks(0), 2);
    }

    private static void promises7To10() {
        BallotRing x = CHECK.ring(ALIKE);
        due("7: countings", x.countings(), 3);
        int[][] rows = {{0, 0, 0, 2}, {1, 1, 1, 2}, {2, 2, 2, 2}};
        for (int i = 0; i < 3; i++) {
            for (int v = 0; v < 4; v++) {
                due("8: counting(" + i + "," + v + ")", x.counting(i, v), rows[i][v]);
            }
        }
        due("9: chosen(0)", x.chosen(0), 1);
        due("9: chosen(1)", x.chosen(1), 0);
        due("9: chosen(2)", x.chosen(2), 1);
        due("8: counting(3,0)", x.counting(3, 0), -1);
        due("8: counting(0,4)", x.counting(0, 4), -1);
        due("9: chosen(3)", x.chosen(3), -2);
        for (int out : OUT) {
            due("8: counting(" + out + ",0)", x.counting(out, 0), -1);
            due("8: counting(0," + out + ")", x.counting(0, out), -1);
            due("9: chosen(" + out + ")", x.chosen(out), -2);
            due("10: wins(" + out + ")", x.wins(out), -1);
        }
        due("10: wins(0)", x.wins(0), 1);
        due("10: wins(1)", x.wins(1), 1);
        due("10: wins(2)", x.wins(2), -1);
        Check.reword(x, 2, "y");
        due("7: countings of a fixed one", x.countings(), 1);
        due("10: wins in all", x.wins(1), 2);
        due("10: wins in none", x.wins(0), 0);
        Check.reword(x, 2, "x");
        Check.reword(x, 1, "y");
        due("8: a goes by b", x.counting(0, 0), 2);
        due("9: three to three: none chosen", x.chosen(0), -1);
        due("10: none wins by halves", x.wins(0) + x.wins(1), 0);
        Check.reword(x, 3, "blank");
        due("9: three to two", x.chosen(0), 0);
        BallotRing r = CHECK.ring(RING);
        due("10: wins without countings", r.wins(0), -1);
        due("9: chosen without countings", r.chosen(0), -2);
        due("8: counting without countings", r.counting(0, 0), -1);
        BallotRing blank = CHECK.ring("name x;street s;voter a at s weight 1;");
        due("9: nobody has a weight above 0", blank.chosen(0), -1);
        BallotRing one = CHECK.ring("street s;voter a at s weight 1;ballot a fewest;");
        due("9: no names", one.chosen(0), -1);
        due("10: no names", one.wins(0), -1);
        BallotRing all = CHECK.ring(EIGHT + ring("abcdefgh"));
        due("7: eight in a ring", all.countings(), 4);
        due("8: the last of eight", all.counting(3, 7), 3);
        due("7: two at a time", CHECK.ring(EIGHT + ring("ab") + ring("cd") + ring("ef") + ring("gh")).countings(), 256);
        BallotRing later = CHECK.ring(EIGHT + ring("abcdefgh"));
        later.countings();
        Check.roll(later, ALIKE);
        due("7: a smaller roll behind a greater one", later.countings(), 3);
        due("8: its first one", later.counting(1, 2), 1);
    }

    private static String ring(String voters) {
        StringBuilder text = new StringBuilder();
        for (int i = 0; i < voters.length(); i++) {
            text.append("ballot ").append(voters.charAt(i)).append(" as ")
                .append(voters.charAt((i + 1) % voters.length())).append(";");
        }
        return text.toString();
    }

    private static void promises11To14() {
        BallotRing x = CHECK.ring(RING);
        due("11: says(0)", x.says(0), 0);
        due("11: says(1)", x.says(1), 1);
        due("11: says(2)", x.says(2), 0);
        due("11: saying changes nothing", x.has(1), 0);
        x.mark(0, 1);
        due("11: says(1) against red", x.says(1), 2);
        due("11: says(2) with most", x.says(2), 1);
        due("12: looks(0)", x.looks(0), 2);
        due("12: looks(1)", x.looks(1), 1);
        due("12: looks(2)", x.looks(2), 3);
        due("13: part(0)", x.part(0), 3);
        due("13: part(1)", x.part(1), 3);
        due("13: part(2)", x.part(2), 4);
        due("14: telling()", x.telling(), 3);
        due("11: says(3)", x.says(3), -1);
        due("12: looks(3)", x.looks(3), -1);
        due("13: part(3)", x.part(3), -1);
        for (int out : OUT) {
            due("11: says(" + out + ")", x.says(out), -1);
            due("12: looks(" + out + ")", x.looks(out), -1);
            due("13: part(" + out + ")", x.part(out), -1);
        }
        BallotRing y = CHECK.ring(EIGHT + "ballot a if votes x in t = 1 then as b else most in s;"
            + "ballot e if 1 then blank else fewest in t;ballot h if is a x and blanks in s < 2 then y else blank;"
            + "ballot b most;ballot c if votes y then x else y;ballot d z;");
        due("12: a street and the own one", y.looks(0), 0b11111110);
        due("12: a way that is never gone counts, too", y.looks(4), 0b11100000);
        due("12: is and blanks", y.looks(7), 0b00001111);
        due("12: all others", y.looks(1), 0b11111101);
        due("12: votes of all", y.looks(2), 0b11111011);
        due("12: none", y.looks(3), 0);
        due("12: without a ballot", y.looks(5), 0);
        due("13: those that come back", y.part(0), 0b10010111);
        due("13: of another one of them", y.part(7), 0b10010111);
        due("13: alone", y.part(3), 0b1000);
        BallotRing way = CHECK.ring(EIGHT + ring("abcdefgh"));
        due("13: a long way round", way.part(5), 0xFF);
        Check.reword(way, 7, "x");
        due("13: no way back", way.part(5), 0x20);

        due("14: none with a counting", way.telling(), -1);
        BallotRing t = CHECK.ring("name x;street s;voter a at s weight 1;voter b at s weight 1;voter c at s weight 1;"
            + "voter d at s weight 1;ballot c as b;ballot d if is c x then blank else x;"
            + "ballot b if is a x then x else blank;");
        due("14: one that looks on", t.telling(), -1);
        Check.reword(t, 0, "if is d x then x else blank");
        due("14: a ring of four against itself", t.telling(), 0b1111);
        Check.reword(t, 1, "if is a x then blank else x");
        due("14: twice against is with", t.telling(), -1);
        Check.reword(t, 1, "x");
        Check.reword(t, 0, "as b");
        Check.reword(t, 2, "if is d x then x else blank");
        due("14: two that can't agree", t.telling(), 0b1100);
        Check.reword(t, 0, "if is b x then blank else x");
        Check.reword(t, 1, "as a");
        due("14: of like ones the least", t.telling(), 0b0011);
    }

    /** A town where b to e have marks and a's ballot is tried: what it says. */
    private static void says(String wording, int want) {
        BallotRing x = CHECK.ring("name x;name y;name z;street s;street t;street u;voter a at s weight 9;"
            + "voter b at s weight 1;voter c at s weight 2;voter d at t weight 3;voter e at t weight 4;");
        x.mark(0, 3);
        x.mark(1, 1);
        x.mark(2, 2);
        x.mark(3, 2);
        x.mark(4, 0);
        due("11: reword by " + wording, Check.reword(x, 0, wording) > 0, true);
        due("11: says(0) of " + wording, x.says(0), want);
    }

    private static void asks(String question, int value) {
        says("if (" + question + ") = " + value + " then y else x", 2);
        says("if (" + question + ") = " + (value + 1) + " then y else x", 1);
        says("if " + question + " then y else x", value != 0 ? 2 : 1);
    }

    private static void saying() {
        says("blank", 0);
        says("z", 3);
        says("as d", 2);
        says("as e", 0);
        says("most", 2);
        says("most in s", 2);
        says("most in u", 0);
        says("fewest", 3);
        says("fewest in t", 1);
        says("fewest in u", 1);
        says("if 0 then x else if 0 then y else z", 3);
        says("if 1 then if 0 then x else y else z", 2);
        asks("votes x", 1);
        asks("votes y", 5);
        asks("votes z", 0);
        asks("votes y in s", 2);
        asks("votes y in u", 0);
        asks("blanks", 4);
        asks("blanks in s", 0);
        asks("is d y", 1);
        asks("is d x", 0);
        asks("is e x", 0);
        asks("9998", 9998);
        says("if 9999 > 9998 then y else x", 2);
        asks("0007", 7);
        asks("5 - 2 - 1", 2);
        asks("5 - (2 - 1)", 4);
        asks("5 - 2 + 1", 4);
        asks("1 < 2", 1);
        asks("2 < 2", 0);
        asks("2 > 2", 0);
        asks("3 > 2", 1);
        asks("2 = 2", 1);
        asks("1 - 2 < 0", 1);
        asks("7 or 0", 1);
        asks("0 or 0", 0);
        asks("7 and 2", 1);
        asks("7 and 0", 0);
        asks("1 - 2 and 1", 1);
        asks("not 7", 0);
        asks("not 0", 1);
        asks("not not 7", 1);
        asks("not 1 = 2", 1);
        asks("(not 1) = 2", 0);
        asks("not 0 and 0", 0);
        asks("not (0 and 0)", 1);
        asks("1 or 0 and 0", 1);
        asks("(1 or 0) and 0", 0);
        asks("(7) + 1", 8);
        asks("(1 < 2) + (3 or 4)", 2);
        BallotRing none = CHECK.ring("street s;voter a at s weight 1;voter b at s weight 1;ballot a most;ballot b fewest;");
        due("11: most without names", none.says(0), 0);
        due("11: fewest without names", none.says(1), 0);
        BallotRing ties = CHECK.ring(EIGHT + "ballot h most in s;ballot g fewest in s;");
        ties.mark(0, 3);
        ties.mark(1, 2);
        due("11: of like ones the first", ties.says(7), 2);
        due("11: of like ones the first", ties.says(6), 1);
        ties.mark(2, 1);
        ties.mark(3, 1);
        due("11: of like ones the first", ties.says(6), 2);
    }

    private static void promises15To18() {
        BallotRing x = CHECK.ring(RING);
        due("15: mark(0,1)", x.mark(0, 1), true);
        due("17: has(0)", x.has(0), 1);
        due("15: mark(0,2)", x.mark(0, 2), true);
        due("17: has(0)", x.has(0), 2);
        due("15: mark(0,3)", x.mark(0, 3), false);
        due("15: mark(3,0)", x.mark(3, 0), false);
        for (int out : OUT) {
            due("15: mark(" + out + ",0)", x.mark(out, 0), false);
            due("15: mark(0," + out + ")", x.mark(0, out), false);
            due("16: open(" + out + ")", x.open(out), -1);
            due("17: has(" + out + ")", x.has(out), -1);
        }
        due("17: nothing done", x.has(0), 2);
        due("17: has(1)", x.has(1), 0);
        due("17: has(3)", x.has(3), -1);
        due("16: open(3)", x.open(3), -1);
        due("16: open(1)", x.open(1), 1);
        due("17: has(1) then", x.has(1), 1);
        due("16: open(2)", x.open(2), 2);
        due("18: judge: the first", x.judge(), 0);
        due("16: open(0)", x.open(0), 1);
        due("18: judge: the next", x.judge(), 1);
        due("15: mark(0,0)", x.mark(0, 0), true);
        due("17: has(0)", x.has(0), 0);
        Check.reword(x, 0, "blank");
        due("18: judge: the last", x.judge(), 2);
        due("16: open(2)", x.open(2), 1);
        due("18: judge: a counting", x.judge(), -1);
        due("8: it is the one", 100 * x.counting(0, 0) + 10 * x.counting(0, 1) + x.counting(0, 2), 11);
    }

    private static void promises19And20() {
        BallotRing x = CHECK.ring(RING);
        due("19: never rests", x.rest(123), -1);
        due("19: nor so", x.rest(321), -1);
        for (int no : new int[] {0, 1, 12, 112, 124, 120, 1234, 1123, 23, -123, -1, Integer.MIN_VALUE,
            Integer.MAX_VALUE, 1000000123}) {
            due("19: rest(" + no + ")", x.rest(no), -2);
        }
        due("20: none rests", x.soonest(0), -1);
        due("20: none rests", x.soonest(1), -1);
        x.mark(0, 1);
        Check.reword(x, 0, "red");
        due("19: rounds begin with blanks", x.rest(123), 1);
        due("19: the first opens first", x.rest(321), 2);
        due("17: marks in earnest stay", x.has(1), 0);
        due("20: soonest rest", x.soonest(0), 1);
        due("20: soonest order", x.soonest(1), 123);
        due("20: soonest(2)", x.soonest(2), -1);
        due("20: soonest(-1)", x.soonest(-1), -1);
        Check.reword(x, 0, "as cyd");
        Check.reword(x, 2, "as bob");
        Check.reword(x, 1, "blue");
        due("19: from the last on", x.rest(123), 2);
        due("19: another order", x.rest(231), 1);
        due("20: it is the soonest", x.soonest(1), 231);
        BallotRing chain = CHECK.ring(EIGHT + "ballot b as a;ballot c as b;ballot d as c;ballot e as d;ballot f as e;"
            + "ballot g as f;ballot h as g;ballot a y;");
        due("19: eight in order", chain.rest(12345678), 1);
        due("19: eight against it", chain.rest(87654321), 8);
        due("20: of eight", chain.soonest(1), 12345678);
        Check.reword(chain, 0, "as b");
        due("19: all blank", chain.rest(87654321), 0);
        due("20: of like ones the first", chain.soonest(1), 12345678);
        due("20: none changes", chain.soonest(0), 0);
        Check.reword(chain, 7, "z");
        due("19: h alone opens anew", chain.rest(23456781), 1);
        due("19: -2 for a nine", chain.rest(12345679), -2);
        BallotRing three = CHECK.ring("name x;name y;name z;street s;voter a at s weight 1;voter b at s weight 1;"
            + "voter c at s weight 1;");
        due("19: without ballots", three.rest(312), 0);
        due("20: without ballots", three.soonest(1), 123);
        BallotRing empty = new BallotRing();
        due("19: rest(0) without voters", empty.rest(0), 0);
        due("19: rest(1) without voters", empty.rest(1), -2);
        due("20: without voters", empty.soonest(0), 0);
        due("20: without voters", empty.soonest(1), 0);
        longRests();
    }

    /** A ring of eight whose last one puts up the next mark each time that one has come round. */
    private static void longRests() {
        BallotRing x = CHECK.ring("name x;name y;name z;street s;"
            + "voter a at s weight 1;voter b at s weight 1;voter c at s weight 1;voter d at s weight 1;"
            + "voter e at s weight 1;voter f at s weight 1;voter g at s weight 1;voter h at s weight 1;"
            + ring("abcdefgh"));
        // In the order 1 2 .. 8 a mark goes one voter on a round: x is h's in the 1st and a's in the 8th, y a's in the 15th.
        Check.reword(x, 7, "if is a z then z else if is a y then z else if is a x then y else x");
        due("19: three times round", x.rest(12345678), 22);
        due("19: a round for each mark the other way", x.rest(87654321), 3);
        due("20: the soonest", x.soonest(0), 3);
    }

    private static void promise21() {
        BallotRing x = CHECK.ring(RING);
        due("21: sway(0,0)", x.sway(0, 0), 1);
        due("21: sway(0,1)", x.sway(0, 1), 1);
        due("21: sway(0,2)", x.sway(0, 2), 0);
        due("21: sway(1,2)", x.sway(1, 2), 2);
        due("21: sway(2,0)", x.sway(2, 0), -1);
        due("21: sway(0,3)", x.sway(0, 3), -1);
        due("21: sway(0,-1)", x.sway(0, -1), -1);
        for (int out : OUT) {
            due("21: sway(" + out + ",0)", x.sway(out, 0), -1);
            due("21: sway(0," + out + ")", x.sway(0, out), -1);
        }
        BallotRing y = CHECK.ring(EIGHT + "ballot h x;");
        due("21: none is needed", y.sway(0, 0), 0);
        due("21: no set", y.sway(0, 1), 0);
        due("21: no marks", y.sway(0, 2), 0);
        due("21: h alone would be", y.sway(1, 0), 1);
        due("21: h is it", y.sway(1, 1), 128);
        due("21: its mark", y.sway(1, 2), 2);
        Check.reword(y, 7, "blank");
        due("21: the least set", y.sway(2, 1), 1);
        due("21: its mark", y.sway(2, 2), 3);
        for (int v = 0; v < 7; v++) {
            Check.reword(y, v, "x");
        }
        due("21: h again", y.sway(1, 1), 128);
        BallotRing seven = CHECK.ring(EIGHT.replace("weight 9", "weight 1"));
        for (int v = 0; v < 8; v++) {
            Check.reword(seven, v, "x");
        }
        due("21: three are not enough", seven.sway(1, 0), -1);
        due("21: nor told by a set", seven.sway(1, 1), -1);
        due("21: nor by marks", seven.sway(1, 2), -1);
        Check.reword(seven, 7, "y");
        Check.reword(seven, 6, "y");
        due("21: four to four is not enough", seven.sway(1, 0), 3);
        due("21: the least set of three", seven.sway(1, 1), 7);
        due("21: marks by number: a blank, then y twice", seven.sway(1, 2), 22);
        Check.reword(seven, 0, "blank");
        due("21: y needs two of x", seven.sway(1, 1), 6);
        due("21: both for y", seven.sway(1, 2), 22);
        Check.reword(seven, 1, "z");
        due("21: two that are enough", seven.sway(1, 0), 2);
        due("21: a and c", seven.sway(1, 1), 0b101);
        due("21: both for y", seven.sway(1, 2), 22);
        Check.reword(seven, 0, "y");
        due("21: of y's voters three, two of x", seven.sway(1, 1), 4);
        due("21: a blank is the least", seven.sway(1, 2), 2);
        Check.reword(seven, 1, "y");
        due("21: c blank is enough", seven.sway(1, 2), 0);
        BallotRing both = CHECK.ring("name x;name y;street s;voter a at s weight 1;voter b at s weight 1;"
            + "voter c at s weight 3;ballot a as b;ballot b as a;ballot c if is a x then x else if is b y then y else x;");
        due("21: x in all countings", both.sway(0, 0), 1);
        due("21: by whom", both.sway(0, 1), 1);
        due("21: the least mark", both.sway(0, 2), 0);
        due("10: now in some", both.wins(0), 1);
    }

    private static void promise22() {
        BallotRing x = CHECK.ring(ALIKE);
        due("22: more(0,0)", x.more(0, 0), 3);
        due("22: more(2,0)", x.more(2, 0), -1);
        due("22: more(0,3)", x.more(0, 3), -1);
        for (int out : OUT) {
            due("22: more(" + out + ",0)", x.more(out, 0), -1);
            due("22: more(0," + out + ")", x.more(0, out), -1);
        }
        Check.reword(x, 0, "if votes x in s - is b x = 1 then blank else as b");
        due("7: before", x.countings(), 3);
        due("22: a hand in s", x.more(0, 1), 1);
        due("22: a hand in t", x.more(1, 1), 3);
        due("22: another mark in s", x.more(0, 2), 3);
        Check.reword(x, 0, "if blanks > 1 then as b else y");
        due("22: a blank one more", x.more(0, 0), 2);
        due("7: all is as it was", x.countings(), 2);
        due("31: voters, too", x.about(2), 4);
        BallotRing eight = CHECK.ring(EIGHT);
        due("22: eight are the most", eight.more(0, 0), -1);
        BallotRing seven = CHECK.ring(EIGHT.replace("voter h at t weight 9;", "") + ring("abcdefg"));
        due("22: seven and one", seven.more(1, 3), 4);
        Check.reword(seven, 6, "most in t");
        due("22: one more among blanks makes most", seven.more(1, 3), 3);
        due("22: of another street", seven.more(0, 3), 4);
        due("22: without voters", CHECK.ring("name x;street s;").more(0, 1), 1);
        due("22: without streets", CHECK.ring("name x;").more(0, 1), -1);
    }

    private static void promise23() {
        BallotRing x = new BallotRing();
        int[][][] want = {{{16, 2, 6, 2}, {8, 0, -1, 1}, {9, 0, -1, 2}},
            {{4096, 962, 20, 4}, {128, 0, -1, 1}, {216, 0, -1, 2}}};
        for (int n = 2; n <= 3; n++) {
            for (int clause = 0; clause < 3; clause++) {
                for (int what = 0; what < 4; what++) {
                    due("23: shown(" + n + "," + clause + "," + what + ")", x.shown(n, clause, what),
                        want[n - 2][clause][what]);
                }
            }
        }
        due("23: shown(1,0,0)", x.shown(1, 0, 0), -1);
        due("23: shown(4,0,0)", x.shown(4, 0, 0), -1);
        due("23: shown(2,3,0)", x.shown(2, 3, 0), -1);
        due("23: shown(2,-1,0)", x.shown(2, -1, 0), -1);
        due("23: shown(2,0,4)", x.shown(2, 0, 4), -1);
        due("23: shown(2,0,-1)", x.shown(2, 0, -1), -1);
        for (int out : OUT) {
            due("23: shown(" + out + ",0,0)", x.shown(out, 0, 0), -1);
            due("23: shown(3," + out + ",0)", x.shown(3, out, 0), -1);
            due("23: shown(3,0," + out + ")", x.shown(3, 0, out), -1);
        }
    }

    private static void promises24To28() {
        BallotRing x = CHECK.ring(ALIKE);
        due("27: left with no hands", x.left(0), 3);
        due("28: more than one", x.sure(0, 0), -2);
        due("28: one that is sure", x.sure(3, 0), 2);
        due("24: hand(2,1)", x.hand(2, 1), 0);
        due("26: later(3)", x.later(3), 3);
        due("24: hand(0,2)", x.hand(0, 2), 1);
        due("26: later(0)", x.later(0), 3);
        due("27: before all hands", x.left(-1), 3);
        due("27: left(0)", x.left(0), 1);
        due("27: left(2)", x.left(2), 1);
        due("27: left(3): they can't both be", x.left(3), 0);
        due("27: left far on", x.left(Integer.MAX_VALUE), 0);
        due("27: left far back", x.left(Integer.MIN_VALUE), 3);
        due("28: sure(1,0)", x.sure(1, 0), 1);
        due("28: sure(1,-1)", x.sure(1, -1), -2);
        due("28: sure(1,3)", x.sure(1, 3), -1);
        due("26: later(2)", x.later(2), 5);
        due("25: untell(0)", x.untell(0), true);
        due("25: untell(0) again", x.untell(0), false);
        due("25: untell(2)", x.untell(2), false);
        for (int out : OUT) {
            due("25: untell(" + out + ")", x.untell(out), false);
            due("24: hand(" + out + ",0)", x.hand(out, 0), -1);
            due("24: hand(0," + out + ")", x.hand(0, out), -1);
            due("28: sure(" + out + ",0)", x.sure(out, 0), -1);
        }
        due("24: hand(4,0)", x.hand(4, 0), -1);
        due("24: hand(0,3)", x.hand(0, 3), -1);
        due("28: sure(4,0)", x.sure(4, 0), -1);
        due("27: as known at 4", x.left(4), 0);
        due("27: as known at 5", x.left(5), 1);
        due("28: as known at 5", x.sure(2, 5), 2);
        due("28: as known at 0", x.sure(2, 0), 1);
        due("27: far on", x.left(Integer.MAX_VALUE), 1);
        due("24: hand(3,0)", x.hand(3, 0), 2);
        due("27: d says y", x.left(5), 0);
        due("25: untold at the same time", x.untell(2), true);
        due("27: it never counted", x.left(5), 1);
        due("24: told twice alike", x.hand(0, 2), 3);
        due("27: left", x.left(5), 1);
        for (int i = 4; i < 20; i++) {
            due("24: hand " + i, x.hand(0, 2), i);
        }
        due("24: the 21st", x.hand(0, 2), -1);
        due("31: hands", x.about(4), 20);
        x.untell(19);
        due("24: an untold one stays one", x.hand(0, 2), -1);
        due("26: later(-1)", x.later(-1), -1);
        due("26: later(1001)", x.later(1001), -1);
        due("26: later(most)", x.later(Integer.MAX_VALUE), -1);
        due("26: later(least)", x.later(Integer.MIN_VALUE), -1);
        for (int i = 1; i < 100; i++) {
            due("26: later", x.later(1000), 5 + 1000 * i);
        }
        due("26: above 100,000", x.later(996), -1);
        due("26: just 100,000", x.later(995), 100000);
        due("26: later(1) then", x.later(1), -1);
        due("26: later(0) then", x.later(0), 100000);
        due("31: the time", x.about(5), 100000);
        BallotRing none = CHECK.ring(RING);
        due("27: no countings", none.left(0), 0);
        due("28: no countings", none.sure(0, 0), -1);
    }

    private static void promises29And30() {
        BallotRing x = CHECK.ring(ALIKE);
        due("30: back of an empty one", x.back(0), -1);
        due("29: image(3)", x.image(3), -1);
        due("30: back(3)", x.back(3), -1);
        for (int out : OUT) {
            due("29: image(" + out + ")", x.image(out), -1);
            due("30: back(" + out + ")", x.back(out), -1);
        }
        x.hand(0, 1);
        x.mark(1, 2);
        due("29: image(0)", x.image(0), 1);
        x.later(4);
        x.untell(0);
        x.hand(0, 2);
        x.mark(1, 1);
        Check.reword(x, 0, "if 1 then x else y");
        due("29: image(2)", x.image(2), 2);
        due("5: countings", x.countings(), 1);
        due("31: units", x.about(7), 6);
        Check.write(x, "name");
        due("30: back(0)", x.back(0), 1);
        due("30: the ballot", x.countings(), 3);
        due("30: units", x.about(7), 4);
        due("30: the marks", x.has(1), 2);
        due("30: the hand is not untold", x.left(9), 1);
        due("30: the hand's mark", x.sure(0, 9), 1);
        due("30: the time goes on", x.about(5), 4);
        due("30: the tape stays", x.about(6), 4);
        due("25: it can be untold anew", x.untell(0), true);
        x.mark(1, 0);
        due("30: back(2)", x.back(2), 2);
        due("30: its ballot", x.countings(), 1);
        due("30: its marks", x.has(1), 1);
        due("30: its hand is untold", x.untell(0), false);
        due("30: its other one is not", x.untell(1), true);
        due("30: back(0) again", x.back(0), 1);
        due("30: a box keeps what it kept", x.has(1), 2);
        due("30: its hand", x.left(9), 1);
        due("29: image(0) anew", x.image(0), 1);
        due("30: back(1)", x.back(1), -1);
        x.soonest(0);
        x.sway(1, 0);
        x.telling();
        Check.reword(x, 3, "x");
        due("20: soonest anew", x.soonest(0), 1);
        due("21: sway anew", x.sway(1, 1), 1);
        x.back(0);
        due("21: sway as it was", x.sway(1, 2), 0);
        Check.roll(x, ALIKE);
        due("30: a roll empties boxes", x.back(0), -1);
    }

    private static void promise31() {
        BallotRing x = CHECK.ring("name x;name y;name z;street s;street t;voter a at s weight 1;voter b at s weight 1;"
            + "voter c at s weight 1;voter d at t weight 1;ballot a x;ballot b if (blanks) then most in s else as a;");
        Check.write(x, "street of mine;");
        x.hand(0, 0);
        x.later(7);
        int[] want = {3, 2, 4, 2, 1, 7, 15, 5};
        for (int what = 0; what < want.length; what++) {
            due("31: about(" + what + ")", x.about(what), want[what]);
        }
        due("31: about(8)", x.about(8), -1);
        due("31: about(-1)", x.about(-1), -1);
        for (int out : OUT) {
            due("31: about(" + out + ")", x.about(out), -1);
            due("6: fault(" + out + ")", x.fault(out), -1);
        }
    }
}
