/** Terms 4 and promises 1 to 31: for each sentence that names a boundary, calls on both of its sides; remarks quote it. */
public final class PromiseEdgesTest {
    private static final Check CHECK = new Check();
    private static final int MOST = Integer.MAX_VALUE;
    private static final int LEAST = Integer.MIN_VALUE;
    // Three who go by each other: a row of one mark for all of them stands.
    private static final String THREE = "name x;name y;street s;street t;voter a at s weight 1;voter b at s weight 1;"
        + "voter c at t weight 3;ballot a as b;ballot b as c;ballot c as a;";
    private static final String FULL = "name x;name y;name z;street s;street t;street u;street v;"
        + "voter a at s weight 1;voter b at s weight 1;voter c at t weight 1;voter d at t weight 1;"
        + "voter e at u weight 1;voter f at u weight 1;voter g at v weight 1;voter h at v weight 1;"
        + "ballot a as b;ballot b as a;ballot c as d;ballot d as c;ballot e as f;ballot f as e;ballot g as h;ballot h as g;";

    public static void main(String[] args) {
        newObject();
        feeding();
        ending();
        rolling();
        rewording();
        faults();
        countings();
        chosenAndWins();
        ofOneVoter();
        marksInEarnest();
        judging();
        orders();
        swayedNames();
        oneMore();
        smallTexts();
        hands();
        untold();
        times();
        leftAndSure();
        boxes();
        aboutAll();
        refusals();
        CHECK.close("PromiseEdgesTest");
    }

    private static void due(String call, long got, long want) {
        CHECK.due(call, got, want);
    }

    private static void due(String call, boolean got, boolean want) {
        CHECK.due(call, got, want);
    }

    private static int feedBlanks(BallotRing x) {
        return x.feed(0x20202020, 0x20202020, 0x20202020, 0x20202020, 0x20202020);
    }

    private static void newObject() {
        // Promise 1: "An empty ROLL." Nothing is told, and what can't be is refused.
        BallotRing x = new BallotRing();
        for (int what = 0; what < 8; what++) {
            due("about(" + what + ")", x.about(what), 0);
        }
        due("countings(): the row of none", x.countings(), 1);
        due("counting(0,0)", x.counting(0, 0), -1);
        due("chosen(0)", x.chosen(0), -1);
        due("chosen(1)", x.chosen(1), -2);
        due("wins(0)", x.wins(0), -1);
        due("says(0)", x.says(0), -1);
        due("looks(0)", x.looks(0), -1);
        due("part(0)", x.part(0), -1);
        due("telling()", x.telling(), -1);
        due("mark(0,0)", x.mark(0, 0), false);
        due("open(0)", x.open(0), -1);
        due("has(0)", x.has(0), -1);
        due("judge()", x.judge(), -1);
        due("rest(0)", x.rest(0), 0);
        due("rest(1)", x.rest(1), -2);
        due("soonest(0)", x.soonest(0), 0);
        due("soonest(1)", x.soonest(1), 0);
        due("sway(0,0)", x.sway(0, 0), -1);
        due("more(0,0)", x.more(0, 0), -1);
        due("hand(0,0)", x.hand(0, 0), -1);
        due("untell(0)", x.untell(0), false);
        due("left(0)", x.left(0), 1);
        due("sure(0,0)", x.sure(0, 0), -1);
        due("reword(0)", x.reword(0), -2);
        due("fault(0)", x.fault(0), 0);
        due("fault(1)", x.fault(1), -1);
        due("back(0)", x.back(0), -1);
        due("image(0)", x.image(0), 0);
        due("back(0) then", x.back(0), 0);
        due("later(0)", x.later(0), 0);
        // Another object has its own ROLL.
        BallotRing y = CHECK.ring(THREE);
        due("voters of another", y.about(2), 3);
        due("voters still", x.about(2), 0);
    }

    private static void feeding() {
        // Promise 2: "Twenty bytes come behind those on the TAPE": none is left out, and they stand behind the others.
        BallotRing x = new BallotRing();
        due("feed", x.feed(0x6e616d65, 0x20783b73, 0x74726565, 0x7420733b, 0x766f7465), 20);
        due("feed again", x.feed(0x72206120, 0x61742073, 0x20776569, 0x67687420, 0x39253b20), 40);
        due("roll()", x.roll(), -1);
        due("fault(0): the 38th byte", x.fault(0), 1);
        due("fault(1): the 38th byte", x.fault(1), 37);
        // Promise 2: "of each number the highest first": each of the twenty by its place; also of numbers below 0.
        for (int place = 0; place < 20; place++) {
            for (int odd : new int[] {0x80, 0xFF, 0x00, 0x7F}) {
                int[] five = {0x20202020, 0x0A0A0A0A, 0x20202020, 0x0A0A0A0A, 0x200A200A};
                int shift = 24 - 8 * (place % 4);
                five[place / 4] = five[place / 4] & ~(255 << shift) | odd << shift;
                BallotRing y = new BallotRing();
                due("feed of an odd byte", y.feed(five[0], five[1], five[2], five[3], five[4]), 20);
                due("roll() of an odd byte", y.roll(), -1);
                due("its place", y.fault(1), place);
            }
        }
        // Promise 2: "NONE, and nothing comes, if there would be more than 1,600".
        BallotRing full = new BallotRing();
        for (int n = 20; n <= 1600; n += 20) {
            due("feed to " + n, feedBlanks(full), n);
        }
        due("feed beyond a full one", full.feed(-1, -1, -1, -1, -1), -1);
        due("feed beyond it again", full.feed(LEAST, MOST, 0, -1, 1), -1);
        due("about(6) of a full one", full.about(6), 1600);
        for (int n = 1599; n > 1580; n--) {
            due("end(" + n + ")", full.end(n), n);
            due("feed behind " + n, full.feed(-1, -1, -1, -1, -1), -1);
            due("about(6) behind " + n, full.about(6), n);
        }
        due("end(1580)", full.end(1580), 1580);
        due("feed to just 1,600", feedBlanks(full), 1600);
        due("roll(): nothing came of all that was refused", full.roll(), 0);
        due("feed begins anew", feedBlanks(full), 20);
    }

    private static void ending() {
        // Promise 3: "The TAPE has its first n bytes: n; NONE, doing nothing, if it has not so many, or n is below 0."
        BallotRing x = new BallotRing();
        due("end(0) of an empty one", x.end(0), 0);
        CHECK.allOut("end of an empty one", x, 1, (r, n) -> r.end(n), -1);
        x.feed(0x6e616d65, 0x20783b6e, 0x616d6520, 0x793b2525, 0x25252525);
        CHECK.allOut("end of twenty", x, 21, (r, n) -> r.end(n), -1);
        due("about(6): nothing was done", x.about(6), 20);
        due("end(20): all of them", x.end(20), 20);
        due("end(14)", x.end(14), 14);
        CHECK.allOut("end of fourteen", x, 15, (r, n) -> r.end(n), -1);
        due("about(6): still fourteen", x.about(6), 14);
        due("roll() of the first fourteen", x.roll(), 0);
        due("about(0): two names", x.about(0), 2);
        // What was cut off is gone, and comes not back by what is fed behind it.
        Check.write(x, "name x;%%%%%%%%%%%%%");
        due("end(7)", x.end(7), 7);
        due("feed behind it", feedBlanks(x), 27);
        due("roll() of both", x.roll(), 0);
        due("end(0) behind a roll", x.end(0), 0);
        due("end(1) behind a roll", x.end(1), -1);
        // A token that is cut is what is left of it: its letters, its digits, or no letter behind an N.
        cut("if 1x", 4, 2, 4);
        cut("if 1x", 5, 1, 3);
        cut("if 12345", 7, 2, 7);
        cut("if 12345", 8, 1, 3);
        cut("as bbbbbbbbb", 11, 5, 3);
        cut("as bbbbbbbbb", 12, 1, 3);
        cut("as bx", 4, 0, -1);
        cut("as bx", 5, 5, 3);
        cut("blank", 4, 5, 0);
        cut("blank", 5, 0, -1);
        cut("x%", 1, 0, -1);
        cut("x%", 2, 1, 1);
        // A full one.
        for (int i = 0; i < 80; i++) {
            feedBlanks(x);
        }
        due("end(1601) of a full one", x.end(1601), -1);
        due("end(1600) of a full one", x.end(1600), 1600);
        due("end(0) of a full one", x.end(0), 0);
    }

    private static void cut(String text, int n, int fault, int place) {
        BallotRing x = CHECK.ring(THREE);
        Check.write(x, text);
        due("end(" + n + ") of " + text, x.end(n), n);
        due("reword(0) by " + n + " bytes of " + text, x.reword(0), fault == 0 ? 3 : -1);
        due("fault(0) of " + n + " bytes of " + text, x.fault(0), fault);
        due("fault(1) of " + n + " bytes of " + text, x.fault(1), place);
    }

    private static void rolling() {
        // Promise 4: "how many VOTERS": none, one, eight.
        BallotRing x = new BallotRing();
        due("roll() of none", x.roll(), 0);
        due("roll() of one", Check.roll(x, "street s;voter a at s weight 1;"), 1);
        due("roll() of eight", Check.roll(x, FULL), 8);
        due("roll() of none behind eight", x.roll(), 0);
        // Promise 4: "(MARKS are 0, HANDS are none, BOXES are empty then; the TIME stays)".
        Check.roll(x, FULL);
        for (int v = 0; v < 8; v++) {
            x.mark(v, 3);
        }
        for (int i = 0; i < 20; i++) {
            x.hand(7, 3);
        }
        for (int box = 0; box < 3; box++) {
            due("image(" + box + ")", x.image(box), 20);
        }
        x.later(1000);
        due("roll() again", Check.roll(x, FULL), 8);
        for (int v = 0; v < 8; v++) {
            due("has(" + v + ") is 0", x.has(v), 0);
        }
        due("about(4): no hands", x.about(4), 0);
        due("untell(0): none there", x.untell(0), false);
        due("left: no hand counts", x.left(1000), 256);
        for (int box = 0; box < 3; box++) {
            due("back(" + box + ") of an emptied box", x.back(box), -1);
        }
        due("about(5): the time stays", x.about(5), 1000);
        due("hand: its number begins anew", x.hand(0, 0), 0);
        // Promise 4: "The TAPE (empty then)", whether it stands or has a FAULT.
        due("about(6) behind a roll", x.about(6), 0);
        due("roll() with a fault", Check.roll(x, "%"), -1);
        due("about(6) behind a fault", x.about(6), 0);
        // Ballots reworded before are gone, too, and those that were never told are blank.
        BallotRing y = CHECK.ring(THREE);
        Check.reword(y, 0, "x");
        due("roll() without ballots", Check.roll(y, THREE.substring(0, THREE.indexOf("ballot"))), 3);
        due("countings() without ballots", y.countings(), 1);
        due("says(0) without a ballot", y.says(0), 0);
        due("about(7) without ballots", y.about(7), 0);
        due("about(3) without ballots", y.about(3), 0);
    }

    private static void rewording() {
        // Promise 5: "-2, and the TAPE stays: no such VOTER".
        BallotRing x = CHECK.ring(THREE);
        Check.write(x, "y");
        CHECK.allOut("reword", x, 3, (r, v) -> r.reword(v), -2);
        due("about(6): the tape stays", x.about(6), 1);
        due("reword(2): the last voter", x.reword(2), 3);
        due("says(2)", x.says(2), 2);
        BallotRing eight = CHECK.ring(FULL);
        due("reword(7): the last of eight", Check.reword(eight, 7, "z"), 8);
        due("reword(8)", eight.reword(8), -2);
        due("reword(0): the first of eight", Check.reword(eight, 0, "as h"), 8);
        due("part(0)", eight.part(0), 1);
        // Promise 5: "The TAPE (empty then) is the e of a VOTER's ballot"; an empty one is none.
        due("about(6) is 0 then", x.about(6), 0);
        due("reword(0) by an empty tape", x.reword(0), -1);
        due("fault(0) of an empty tape", x.fault(0), 2);
        due("fault(1) of an empty tape", x.fault(1), 0);
        due("reword(0) by blanks", Check.reword(x, 0, " \n "), -1);
        due("fault(1) of blanks: the text's length", x.fault(1), 3);
        due("reword(0) with a semicolon", Check.reword(x, 0, "x;"), -1);
        due("fault(1) of a semicolon", x.fault(1), 1);
        due("reword(0) by two", Check.reword(x, 0, "x y"), -1);
        due("fault(1) of two", x.fault(1), 2);
        due("about(6) is 0 behind a fault", x.about(6), 0);
        due("reword(0) by a full tape", Check.reword(x, 0, "as b" + " ".repeat(1596)), 3);
        due("reword(0) by a full tape that ends too early", Check.reword(x, 0, "as" + " ".repeat(1598)), -1);
        due("fault(1) of a full tape", x.fault(1), 1600);
        // Terms 4: "the units of all other ballots and of this one are 80 at most": those that it had don't count.
        String units = "if 0" + "+1".repeat(75) + " then x else y";
        due("reword(0) to 80", Check.reword(x, 0, units), 80);
        due("reword(0) to 80 again", Check.reword(x, 0, units), 80);
        due("reword(0) to 81", Check.reword(x, 0, units.replace("0", "0+1")), -1);
        due("fault(0) of an 81st unit", x.fault(0), 2);
        due("fault(1) of an 81st unit", x.fault(1), units.length() + 2 - 1);
        due("reword(1) to 80", Check.reword(x, 1, "most in t"), 80);
        due("reword(1) to 82", Check.reword(x, 1, "if @1 then x else y".replace("@", "")), -1);
        due("fault(1) of the first one beyond", x.fault(1), 10);
        due("about(7) stays", x.about(7), 80);
        due("reword(0) to 3", Check.reword(x, 0, "blank"), 3);
        // Terms 4: "FAULTS as above": seven ifs around each other, and eight.
        due("reword(0): within 6 others", Check.reword(x, 0, "if 1 then x else ".repeat(7) + "y"), 17);
        due("reword(0): within 7 others", Check.reword(x, 0, "if 1 then x else ".repeat(8) + "y"), -1);
        due("fault(1): at the if", x.fault(1), 7 * 17);
        due("reword(0): its own", Check.reword(x, 0, "as a"), -1);
        due("fault(0): its own", x.fault(0), 3);
        due("fault(1): its own", x.fault(1), 3);
        // Terms 4: "all VOTERS are told ahead".
        due("reword(0): by the last one", Check.reword(x, 0, "if is c x then as c else as b"), 5);
        BallotRing ahead = CHECK.ring(FULL);
        due("reword(0) of eight: by the last one", Check.reword(ahead, 0, "if is h z then as h else as g"), 10);
        due("reword(7) of eight: its own", Check.reword(ahead, 7, "as h"), -1);
        // Terms 4: "(in place of what it was ..)": marks, hands and boxes stay.
        x.mark(0, 2);
        x.hand(1, 1);
        x.image(0);
        due("reword(0)", Check.reword(x, 0, "x"), 3);
        due("has(0) stays", x.has(0), 2);
        due("about(4) stays", x.about(4), 1);
        due("back(0) stays", x.back(0), 1);
        due("about(7): the ballot as the box has it", x.about(7), 5);
    }

    private static void faults() {
        // Promise 6: "Of the latest of both that was not -2 what 0: its FAULT (0), 1: its place (NONE). NONE for another
        // what."
        BallotRing x = new BallotRing();
        for (int turn = 0; turn < 2; turn++) {
            due("roll() with a fault", Check.roll(x, "name x;name x;"), -1);
            due("fault(0) of the roll", x.fault(0), 3);
            due("fault(1) of the roll", x.fault(1), 12);
            due("reword(0): no such voter", x.reword(8), -2);
            due("fault(0) behind -2", x.fault(0), 3);
            due("fault(1) behind -2", x.fault(1), 12);
            CHECK.allOut("fault", x, 2, (r, what) -> r.fault(what), -1);
            due("roll()", Check.roll(x, THREE), 3);
            due("fault(0) of a roll that stands", x.fault(0), 0);
            due("fault(1) of a roll that stands", x.fault(1), -1);
            due("reword(0) with a fault at 0", Check.reword(x, 0, "%"), -1);
            due("fault(0) of the ballot", x.fault(0), 1);
            due("fault(1) of the ballot", x.fault(1), 0);
            due("reword(3): no such voter", x.reword(3), -2);
            due("fault(0) behind -2", x.fault(0), 1);
            due("fault(1) behind -2", x.fault(1), 0);
            due("reword(0)", Check.reword(x, 0, "as c"), 3);
            due("fault(0) of a ballot that stands", x.fault(0), 0);
            due("fault(1) of a ballot that stands", x.fault(1), -1);
        }
    }

    private static void countings() {
        // Promise 7: "How many COUNTINGS there are": none, one, and of eight voters many.
        due("none", CHECK.ring("name x;street s;voter a at s weight 1;voter b at s weight 1;ballot a as b;"
            + "ballot b if is a x then blank else x;").countings(), 0);
        BallotRing x = CHECK.ring(FULL);
        due("four to the power of four", x.countings(), 256);
        // Promise 8: "The i-th COUNTING's (from 0 on) MARK of a VOTER; NONE if one can't be."
        for (int i = 0; i < 256; i += 17) {
            for (int v = 0; v < 8; v++) {
                due("counting(" + i + "," + v + ")", x.counting(i, v), i >> 2 * (3 - v / 2) & 3);
            }
        }
        CHECK.allOut("counting by its first number", x, 256, (r, i) -> r.counting(i, 7), -1);
        CHECK.allOut("counting by its second number", x, 8, (r, v) -> r.counting(255, v), -1);
        due("counting(256,8)", x.counting(256, 8), -1);
        due("counting(255,7): the last of the last", x.counting(255, 7), 3);
        Check.roll(x, THREE);
        due("fewer behind a smaller roll", x.countings(), 3);
        CHECK.allOut("counting by its first number", x, 3, (r, i) -> r.counting(i, 0), -1);
        CHECK.allOut("counting by its second number", x, 3, (r, v) -> r.counting(0, v), -1);
        Check.reword(x, 0, "if is b x then y else x");
        due("none now", x.countings(), 0);
        CHECK.allOut("counting of none", x, 0, (r, i) -> r.counting(i, 0), -1);
    }

    private static void chosenAndWins() {
        // Promise 9: "The number (0 ..) of the name CHOSEN in the i-th COUNTING; NONE; -2 if there is none such."
        BallotRing x = CHECK.ring(THREE);
        due("chosen(0): all blank", x.chosen(0), -1);
        due("chosen(1): the first name", x.chosen(1), 0);
        due("chosen(2): the last name", x.chosen(2), 1);
        CHECK.allOut("chosen", x, 3, (r, i) -> r.chosen(i), -2);
        // Promise 10: "2 in all COUNTINGS, 1 in some, 0 in none; NONE if there is no such name, or no COUNTING."
        due("wins(0): in some", x.wins(0), 1);
        due("wins(1): in some", x.wins(1), 1);
        CHECK.allOut("wins", x, 2, (r, name) -> r.wins(name), -1);
        Check.reword(x, 2, "y");
        due("wins(0): in none", x.wins(0), 0);
        due("wins(1): in all", x.wins(1), 2);
        Check.reword(x, 2, "if is a x then blank else x");
        due("wins(0): no counting", x.wins(0), -1);
        CHECK.allOut("wins without a counting", x, 2, (r, name) -> r.wins(name), -1);
        CHECK.allOut("chosen without a counting", x, 0, (r, i) -> r.chosen(i), -2);
        due("wins(0) without voters", CHECK.ring("name x;").wins(0), 0);
        BallotRing full = CHECK.ring(FULL);
        due("chosen(255) of eight", full.chosen(255), 2);
        due("chosen(1): two for x, all others blank", full.chosen(1), 0);
        due("chosen(27): alike", full.chosen(0b00011011), -1);
        CHECK.allOut("chosen of eight", full, 256, (r, i) -> r.chosen(i), -2);
        CHECK.allOut("wins of three names", full, 3, (r, name) -> r.wins(name), -1);
        due("wins(2): the last of three", full.wins(2), 1);
    }

    private static void ofOneVoter() {
        // Promises 11, 12, 13, 17: "NONE if there is none such": with no voter, three, eight.
        BallotRing[] towns = {new BallotRing(), CHECK.ring(THREE), CHECK.ring(FULL)};
        for (BallotRing x : towns) {
            int voters = x.about(2);
            CHECK.allOut("says", x, voters, (r, v) -> r.says(v), -1);
            CHECK.allOut("looks", x, voters, (r, v) -> r.looks(v), -1);
            CHECK.allOut("part", x, voters, (r, v) -> r.part(v), -1);
            CHECK.allOut("has", x, voters, (r, v) -> r.has(v), -1);
            CHECK.allOut("open", x, voters, (r, v) -> r.open(v), -1);
        }
        for (int v = 0; v < 8; v++) {
            due("looks(" + v + ") of eight", towns[2].looks(v), 1 << (v ^ 1));
            due("part(" + v + ") of eight", towns[2].part(v), 3 << (v & 6));
        }
        // Promise 14: "TELLING, as bits; NONE."
        due("telling(): none", towns[2].telling(), -1);
        Check.reword(towns[2], 7, "if is g x then blank else x");
        due("telling(): the last two of eight", towns[2].telling(), 0xC0);
    }

    private static void marksInEarnest() {
        // Terms 4: "In earnest all MARKS are 0 at first."
        BallotRing x = CHECK.ring(FULL);
        for (int v = 0; v < 8; v++) {
            due("has(" + v + ") at first", x.has(v), 0);
            due("says(" + v + ") at first", x.says(v), 0);
        }
        // Promise 15: "A VOTER has a MARK in earnest: true; false, doing nothing, if one can't be."
        for (int v = 0; v < 8; v++) {
            due("mark(" + v + ",3)", x.mark(v, 3), true);
        }
        CHECK.allOut("mark by its first number", x, 8, (r, v) -> r.mark(v, 1) ? 1 : 0, 0);
        for (int v = 0; v < 8; v++) {
            int voter = v;
            CHECK.allOut("mark(" + v + ",..)", x, 4, (r, m) -> r.mark(voter, m) ? 1 : 0, 0);
            due("has(" + v + "): nothing was done", x.has(v), 3);
        }
        due("mark(8,4)", x.mark(8, 4), false);
        due("mark(7,0)", x.mark(7, 0), true);
        due("has(7)", x.has(7), 0);
        due("has(6)", x.has(6), 3);
        due("mark(0,1)", x.mark(0, 1), true);
        due("has(0)", x.has(0), 1);
        due("has(1)", x.has(1), 3);
        // Promise 16: "A VOTER OPENS: the MARK then", of the first and the last of eight; only that one's.
        due("open(7)", x.open(7), 3);
        due("has(7) then", x.has(7), 3);
        due("open(0)", x.open(0), 3);
        due("has(0) then", x.has(0), 3);
        Check.reword(x, 0, "blank");
        due("has(0) behind reword", x.has(0), 3);
        due("open(0): blank", x.open(0), 0);
        due("has(1) stays", x.has(1), 3);
        due("open(1) by what is now", x.open(1), 0);
        // Without names no MARK but blank.
        BallotRing none = CHECK.ring("street s;voter a at s weight 1;");
        due("mark(0,0) without names", none.mark(0, 0), true);
        due("mark(0,1) without names", none.mark(0, 1), false);
    }

    private static void judging() {
        // Promise 18: "The first VOTER whose ballot does not SAY the MARK of the VOTER in earnest; NONE if there is none
        // such (they are a COUNTING)": each of eight, and of several the first.
        BallotRing x = CHECK.ring("name x;street s;" + FULL.substring(FULL.indexOf("voter"), FULL.indexOf("ballot"))
            .replace("at t", "at s").replace("at u", "at s").replace("at v", "at s"));
        due("judge(): none", x.judge(), -1);
        for (int v = 7; v >= 0; v--) {
            x.mark(v, 1);
            due("judge() by " + v, x.judge(), v);
        }
        for (int v = 0; v < 8; v++) {
            due("judge() before " + v, x.judge(), v);
            due("open(" + v + ")", x.open(v), 0);
        }
        due("judge(): none again", x.judge(), -1);
        due("judge() without voters", new BallotRing().judge(), -1);
    }

    private static void orders() {
        // Promise 19: "its digits from the highest on, each VOTER's number and 1 (the first who opens first), all once;
        // NONE if none; -2 if order is no such one".
        BallotRing x = CHECK.ring(THREE);
        boolean[] right = new boolean[4000];
        for (int order : new int[] {123, 132, 213, 231, 312, 321}) {
            right[order] = true;
        }
        for (int order = -400; order < 4000; order++) {
            // An object is used for at most 512 calls.
            if (order % 400 == 0) {
                x = CHECK.ring(THREE);
            }
            due("rest(" + order + ")", x.rest(order), order >= 0 && right[order] ? 0 : -2);
        }
        for (int order : new int[] {LEAST, LEAST + 1, -123, -321, MOST, 1000000123, 2147480123, 12301, 10123, 1230,
            -2147483525}) {
            due("rest(" + order + ")", x.rest(order), -2);
        }
        BallotRing full = CHECK.ring(FULL);
        for (int order : new int[] {12345678, 87654321, 23456781, 81234567}) {
            due("rest(" + order + ")", full.rest(order), 0);
        }
        for (int order : new int[] {1234567, 123456789, 112345678, 12345677, 12345670, 12345679, 2345678, 0, 1, -12345678,
            -87654321, 92345678, 102345678, 1012345678, 2012345678, MOST, LEAST, 11111111, 88888888}) {
            due("rest(" + order + ")", full.rest(order), -2);
        }
        BallotRing one = CHECK.ring("street s;voter a at s weight 1;");
        for (int order = -2; order <= 12; order++) {
            due("rest(" + order + ") of one", one.rest(order), order == 1 ? 0 : -2);
        }
        for (int order = -2; order <= 12; order++) {
            due("rest(" + order + ") of none", new BallotRing().rest(order), order == 0 ? 0 : -2);
        }
        Check.reword(x, 0, "if is b x then y else x");
        due("rest: none", x.rest(123), -1);
        due("rest: no order", x.rest(122), -2);
        // Promise 20: "SOONEST what 0: REST, 1: the order (as above; 0 without VOTERS); NONE."
        due("soonest(0): none", x.soonest(0), -1);
        due("soonest(1): none", x.soonest(1), -1);
        CHECK.allOut("soonest without one", x, 2, (r, what) -> r.soonest(what), -1);
        CHECK.allOut("soonest", full, 2, (r, what) -> r.soonest(what), -1);
        due("soonest(0) of eight", full.soonest(0), 0);
        due("soonest(1) of eight", full.soonest(1), 12345678);
        due("soonest(1) of one", one.soonest(1), 1);
        due("soonest(1) of none", new BallotRing().soonest(1), 0);
    }

    private static void swayedNames() {
        // Promise 21: "SWAY what 0: how many, 1: the set, 2: their MARKS, digit by digit (0 without any); NONE if 3 are
        // not enough, or one can't be."
        BallotRing x = CHECK.ring(THREE);
        CHECK.allOut("sway by its name", x, 2, (r, name) -> r.sway(name, 0), -1);
        CHECK.allOut("sway by what", x, 3, (r, what) -> r.sway(0, what), -1);
        due("sway(2,3)", x.sway(2, 3), -1);
        due("sway(1,0)", x.sway(1, 0), 1);
        due("sway(1,1)", x.sway(1, 1), 1);
        due("sway(1,2)", x.sway(1, 2), 2);
        Check.reword(x, 0, "y");
        due("sway(1,0) without any", x.sway(1, 0), 0);
        due("sway(1,1) without any", x.sway(1, 1), 0);
        due("sway(1,2) without any", x.sway(1, 2), 0);
        CHECK.allOut("sway by what, without any", x, 3, (r, what) -> r.sway(1, what), -1);
        BallotRing full = CHECK.ring(FULL);
        CHECK.allOut("sway by its name", full, 3, (r, name) -> r.sway(name, 1), -1);
        CHECK.allOut("sway of one that is not enough", full, 3, (r, what) -> r.sway(2, what), -1);
        for (int what = 0; what < 3; what++) {
            due("sway(0," + what + ") without names", CHECK.ring("street s;").sway(0, what), -1);
        }
        swayedBehindAnotherRoll();
    }

    /** A town of four, told by their weights and ballots. */
    private static String four(int weights, String a, String b, String c, String d) {
        return "name x;name y;street s;voter a at s weight " + weights / 1000 + ";voter b at s weight " + weights / 100 % 10
            + ";voter c at s weight " + weights / 10 % 10 + ";voter d at s weight " + weights % 10 + ";ballot a " + a
            + ";ballot b " + b + ";ballot c " + c + ";ballot d " + d + ";";
    }

    /** Promise 4: "The TAPE is the ROLL": what an earlier roll's weights and ballots came to is not among it. */
    private static void swayedBehindAnotherRoll() {
        String[][] towns = {
            {four(2432, "x", "most", "as a", "fewest"), four(4212, "as b", "as d", "y", "as b")},
            {four(2111, "y", "x", "most", "as a"), four(4442, "as d", "fewest", "fewest", "as a")},
            {four(1331, "as d", "fewest", "x", "fewest"), four(2421, "as b", "most", "x", "as c")},
            {four(1133, "blank", "x", "x", "blank"), four(1312, "most", "as a", "fewest", "blank")},
            {four(1133, "y", "as d", "x", "fewest"), four(3312, "fewest", "as d", "fewest", "as b")}};
        int[][] want = {{1, 2, 1, 1, 1, 2}, {1, 1, 2, 1, 1, 1}, {0, 0, 0, 1, 2, 2}, {1, 1, 0, 1, 1, 2}, {1, 2, 1, 1, 2, 2}};
        for (int i = 0; i < towns.length; i++) {
            BallotRing x = CHECK.ring(towns[i][0]);
            x.sway(0, 0);
            Check.roll(x, towns[i][1]);
            for (int name = 0; name < 2; name++) {
                for (int what = 0; what < 3; what++) {
                    int answer = want[i][3 * name + what];
                    due("sway(" + name + "," + what + ") behind another roll", x.sway(name, what), answer);
                    due("sway(" + name + "," + what + ") of " + towns[i][1], CHECK.ring(towns[i][1]).sway(name, what), answer);
                }
            }
        }
    }

    private static void oneMore() {
        // Promise 22: "MORE; NONE if one can't be (8 VOTERS, too)."
        BallotRing x = CHECK.ring(THREE);
        CHECK.allOut("more by its street", x, 2, (r, street) -> r.more(street, 0), -1);
        CHECK.allOut("more by its mark", x, 3, (r, mark) -> r.more(0, mark), -1);
        due("more(1,2): the last street and name", x.more(1, 2), 3);
        due("more(2,3)", x.more(2, 3), -1);
        BallotRing full = CHECK.ring(FULL);
        for (int street = 0; street < 4; street++) {
            for (int mark = 0; mark < 4; mark++) {
                due("more(" + street + "," + mark + ") of eight", full.more(street, mark), -1);
            }
        }
        String seven = FULL.substring(0, FULL.indexOf("voter h")) + FULL.substring(FULL.indexOf("ballot a"),
            FULL.indexOf("ballot g"));
        BallotRing y = CHECK.ring(seven);
        due("more(3,3) of seven", y.more(3, 3), 64);
        CHECK.allOut("more by its street", y, 4, (r, street) -> r.more(street, 3), -1);
        CHECK.allOut("more by its mark", y, 4, (r, mark) -> r.more(3, mark), -1);
        due("more(0,0) without streets", CHECK.ring("name x;").more(0, 0), -1);
        due("more(0,0) without names", CHECK.ring("street s;").more(0, 0), 1);
        due("more(0,1) without names", CHECK.ring("street s;").more(0, 1), -1);
    }

    private static void smallTexts() {
        // Promise 23: "SHOWN by a clause what 0: .., 1: .., 2: the first such (NONE), 3: ..; NONE if one can't be": n is 2
        // or 3, the clauses are 0 to 2.
        BallotRing x = CHECK.ring(THREE);
        for (int n = -1; n <= 6; n++) {
            for (int clause = -1; clause <= 4; clause++) {
                boolean can = (n == 2 || n == 3) && clause >= 0 && clause <= 2;
                if (!can) {
                    for (int what = -1; what <= 4; what++) {
                        due("shown(" + n + "," + clause + "," + what + ")", x.shown(n, clause, what), -1);
                    }
                }
            }
        }
        CHECK.allOut("shown by n", x, 4, (r, n) -> r.shown(n, 0, 0), -1);
        CHECK.allOut("shown by clause", x, 3, (r, clause) -> r.shown(2, clause, 0), -1);
        CHECK.allOut("shown by what", x, 4, (r, what) -> r.shown(2, 0, what), -1);
        due("shown(3,2,3): the last of all", x.shown(3, 2, 3), 2);
        due("shown(2,0,0): the first of all", x.shown(2, 0, 0), 16);
        due("shown(3,1,2): none such", x.shown(3, 1, 2), -1);
        due("shown(3,2,2): none such", x.shown(3, 2, 2), -1);
    }

    private static void hands() {
        // Promise 24: "A HAND: its number; NONE, doing nothing, if one can't be, or there are 20." Terms 4: "20 at most".
        BallotRing x = CHECK.ring(FULL);
        CHECK.allOut("hand by its voter", x, 8, (r, v) -> r.hand(v, 0), -1);
        CHECK.allOut("hand by its mark", x, 4, (r, m) -> r.hand(7, m), -1);
        due("about(4): nothing was done", x.about(4), 0);
        for (int i = 0; i < 20; i++) {
            due("hand " + i, x.hand(7, 3), i);
            due("about(4) behind it", x.about(4), i + 1);
        }
        due("left before the 21st", x.left(0), 64);
        due("the 21st", x.hand(0, 0), -1);
        due("the 21st that can't be", x.hand(8, 0), -1);
        due("about(4): nothing was done", x.about(4), 20);
        due("left: nothing was done", x.left(0), 64);
        // One that is UNTOLD is still one of the 20.
        due("untell(19): the last of twenty", x.untell(19), true);
        due("untell(0)", x.untell(0), true);
        due("the 21st behind it", x.hand(0, 0), -1);
        due("about(4) behind it", x.about(4), 20);
        due("left by the eighteen others", x.left(0), 64);
        for (int i = 1; i < 19; i++) {
            due("untell(" + i + ")", x.untell(i), true);
        }
        due("left by none", x.left(0), 256);
        // A full list behind a roll is empty.
        Check.roll(x, FULL);
        due("the first one", x.hand(7, 3), 0);
        due("without names: blank alone", CHECK.ring("street s;voter a at s weight 1;").hand(0, 1), -1);
        due("without names: blank", CHECK.ring("street s;voter a at s weight 1;").hand(0, 0), 0);
    }

    private static void untold() {
        // Promise 25: "It is UNTOLD: true; false if it is so already, or there is none such."
        BallotRing x = CHECK.ring(THREE);
        CHECK.allOut("untell with no hands", x, 0, (r, hand) -> r.untell(hand) ? 1 : 0, 0);
        x.hand(0, 1);
        x.hand(0, 1);
        CHECK.allOut("untell of two", x, 2, (r, hand) -> r.untell(hand) ? 1 : 0, 0);
        due("left by both", x.left(0), 1);
        due("untell(1)", x.untell(1), true);
        due("untell(1) again", x.untell(1), false);
        due("left by the other one", x.left(0), 1);
        x.later(3);
        due("untell(1) at a later time", x.untell(1), false);
        due("untell(0)", x.untell(0), true);
        due("untell(0) again", x.untell(0), false);
        x.later(2);
        due("untell(0) later", x.untell(0), false);
        due("it is untold since 3, not since 5", x.left(3), 3);
        due("not before", x.left(2), 1);
        // Terms 4: "UNTOLD at a later one or the same": at 0, which is a TIME, too.
        BallotRing y = CHECK.ring(THREE);
        y.hand(2, 2);
        due("untell(0) at 0", y.untell(0), true);
        due("untell(0) at 0 again", y.untell(0), false);
        due("left at 0", y.left(0), 3);
    }

    private static void times() {
        // Terms 4: "a TIME (0 at first, goes on)". Promise 26: "So much later (0 .. 1000): the TIME; NONE, doing nothing,
        // for another number, or if it would be above 100,000."
        BallotRing x = new BallotRing();
        due("about(5) at first", x.about(5), 0);
        due("later(0)", x.later(0), 0);
        CHECK.allOut("later", x, 1001, (r, by) -> r.later(by), -1);
        due("about(5): nothing was done", x.about(5), 0);
        due("later(1)", x.later(1), 1);
        due("later(999)", x.later(999), 1000);
        for (int i = 2; i <= 99; i++) {
            due("later(1000)", x.later(1000), 1000 * i);
        }
        due("later(998)", x.later(998), 99998);
        due("later(1000) to 100,998", x.later(1000), -1);
        due("later(3) to 100,001", x.later(3), -1);
        due("about(5): nothing was done", x.about(5), 99998);
        due("later(2) to 100,000", x.later(2), 100000);
        due("later(1) to 100,001", x.later(1), -1);
        CHECK.allOut("later at the end", x, 1, (r, by) -> r.later(by), -1);
        due("later(0) at the end", x.later(0), 100000);
        due("about(5) at the end", x.about(5), 100000);
        // A HAND at the last TIME, and as known then.
        due("roll()", Check.roll(x, THREE), 3);
        due("about(5): the time stays", x.about(5), 100000);
        due("hand(0,1)", x.hand(0, 1), 0);
        due("left(99999)", x.left(99999), 3);
        due("left(100000)", x.left(100000), 1);
        due("left(100001)", x.left(100001), 1);
        due("untell(0)", x.untell(0), true);
        due("left(100000) then", x.left(100000), 3);
    }

    private static void leftAndSure() {
        // Terms 4: "As known at k those count that were TOLD at k or before, not UNTOLD at k or before."
        BallotRing x = CHECK.ring(THREE);
        x.later(10);
        x.hand(0, 1);
        x.later(10);
        x.untell(0);
        x.later(10);
        x.hand(1, 2);
        for (int k : new int[] {LEAST, -1000, -1, 0, 9, 10, 11, 19, 20, 21, 29, 30, 31, 1000, 100000, 100001, MOST}) {
            int mark = k >= 30 ? 2 : k >= 10 && k < 20 ? 1 : -1;
            // Promise 27: "How many COUNTINGS are LEFT." Promise 28: "The MARK of a VOTER that is SURE; -2 if there are
            // more than one".
            due("left(" + k + ")", x.left(k), mark < 0 ? 3 : 1);
            due("sure(2," + k + ")", x.sure(2, k), mark < 0 ? -2 : mark);
        }
        // Promise 28: "NONE if none is LEFT, or there is none such": two that can't both be, of one voter, or of two.
        x.hand(1, 0);
        due("left: a voter has one mark", x.left(30), 0);
        due("sure(0,30): none is left", x.sure(0, 30), -1);
        due("sure(0,29): as before", x.sure(0, 29), -2);
        x.untell(2);
        due("left: untold", x.left(30), 1);
        x.hand(2, 1);
        due("left: two who are alike", x.left(30), 0);
        due("sure(1,30): none is left", x.sure(1, 30), -1);
        CHECK.allOut("sure", x, 3, (r, v) -> r.sure(v, 0), -1);
        CHECK.allOut("sure where one is left", x, 3, (r, v) -> r.sure(v, 15), -1);
        // A mark that is the same in all of several: blank, and the last name; the first and the last of eight.
        BallotRing y = CHECK.ring(FULL);
        due("sure(7,0) of 256", y.sure(7, 0), -2);
        y.hand(0, 3);
        due("left(0) by a's", y.left(0), 64);
        due("sure(0,0)", y.sure(0, 0), 3);
        due("sure(1,0)", y.sure(1, 0), 3);
        due("sure(2,0)", y.sure(2, 0), -2);
        y.hand(7, 0);
        due("left(0) by h's", y.left(0), 16);
        due("sure(6,0): blank is a mark", y.sure(6, 0), 0);
        due("sure(8,0)", y.sure(8, 0), -1);
        // No COUNTING at all, and no voter.
        Check.reword(y, 7, "if is g x then blank else x");
        due("left without countings", y.left(-1), 0);
        due("sure without countings", y.sure(0, -1), -1);
        due("left without voters", new BallotRing().left(0), 1);
        due("sure without voters", new BallotRing().sure(0, 0), -1);
    }

    private static void boxes() {
        // Promise 29: "kept in a BOX 0 .. 2: how many HANDS; NONE if there is none such."
        BallotRing x = CHECK.ring(THREE);
        CHECK.allOut("image", x, 3, (r, box) -> r.image(box), -1);
        // Promise 30: "NONE, doing nothing, if nothing was": empty boxes, and such as there are none.
        CHECK.allOut("back", x, 0, (r, box) -> r.back(box), -1);
        for (int box = 0; box < 3; box++) {
            due("back(" + box + ") of an empty one", x.back(box), -1);
        }
        // Promise 29: "Ballots (as they are worded), MARKS in earnest, HANDS (as TOLD, UNTOLD)": no hands to twenty.
        due("image(0) without hands", x.image(0), 0);
        for (int i = 0; i < 20; i++) {
            x.hand(0, 1);
            x.mark(2, 1);
            if (i == 0) {
                due("image(1) with one", x.image(1), 1);
                Check.reword(x, 1, "if 1 then x else y");
            }
        }
        x.untell(19);
        x.mark(0, 2);
        due("image(2) with twenty", x.image(2), 20);
        due("back(0): no hands", x.back(0), 0);
        due("about(4): no hands", x.about(4), 0);
        due("has(2) of box 0", x.has(2), 0);
        due("hand: its number goes on from there", x.hand(1, 2), 0);
        due("back(1): one", x.back(1), 1);
        due("has(2) of box 1", x.has(2), 1);
        due("about(7) of box 1", x.about(7), 3);
        due("back(2): twenty", x.back(2), 20);
        due("about(7) of box 2", x.about(7), 5);
        due("has(0) of box 2", x.has(0), 2);
        due("hand: a 21st", x.hand(0, 1), -1);
        due("untell(19): it is so already", x.untell(19), false);
        due("untell(18): it is not", x.untell(18), true);
        due("back(2) again", x.back(2), 20);
        due("untell(18): it is not again", x.untell(18), true);
        // Promise 30: "All is as it was kept (the TIME goes on)": what is untold since stays told, and later calls count.
        BallotRing y = CHECK.ring(THREE);
        y.hand(0, 1);
        y.image(0);
        y.later(5);
        y.untell(0);
        y.image(1);
        y.later(5);
        due("back(0)", y.back(0), 1);
        due("about(5): the time goes on", y.about(5), 10);
        due("left(10): told still", y.left(10), 1);
        due("untell(0) at 10", y.untell(0), true);
        due("left(9)", y.left(9), 1);
        due("left(10)", y.left(10), 3);
        due("back(1)", y.back(1), 1);
        due("left(4): untold at 5", y.left(4), 1);
        due("left(5): untold at 5", y.left(5), 3);
        due("untell(0): untold at 5", y.untell(0), false);
        CHECK.allOut("back", y, 2, (r, box) -> r.back(box), -1);
        due("about(4): nothing was done", y.about(4), 1);
        otherHands();
        // A box keeps what it had until it is told anew; a roll with a FAULT leaves it.
        due("roll() with a fault", Check.roll(y, "%"), -1);
        due("back(0) behind a fault", y.back(0), 1);
        y.hand(2, 2);
        due("image(0) anew", y.image(0), 2);
        due("back(1)", y.back(1), 1);
        due("back(0): two now", y.back(0), 2);
        due("roll()", Check.roll(y, THREE), 3);
        for (int box = 0; box < 3; box++) {
            due("back(" + box + ") behind a roll", y.back(box), -1);
        }
        // An image taken of no voter is one, too.
        BallotRing z = new BallotRing();
        due("image(2) of none", z.image(2), 0);
        due("back(2) of none", z.back(2), 0);
        due("back(1) of none", z.back(1), -1);
    }

    /** Promise 30: "All is as it was kept": each HAND's VOTER, MARK and TIMES, though others were told in its place since. */
    private static void otherHands() {
        BallotRing x = CHECK.ring(THREE);
        due("image(0) without hands", x.image(0), 0);
        x.later(2);
        x.hand(0, 1);
        x.later(1);
        x.hand(1, 1);
        x.untell(1);
        due("image(1) with two", x.image(1), 2);
        due("back(0)", x.back(0), 0);
        x.later(4);
        due("hand: the first again", x.hand(2, 2), 0);
        due("hand: the second again", x.hand(0, 2), 1);
        due("hand: a third", x.hand(1, 0), 2);
        due("left by the three", x.left(7), 0);
        due("image(2) with three", x.image(2), 3);
        due("back(1)", x.back(1), 2);
        due("left(1): not told yet", x.left(1), 3);
        due("left(2): told at 2", x.left(2), 1);
        due("sure(2,2): its mark", x.sure(2, 2), 1);
        due("left(7): the other one is untold", x.left(7), 1);
        due("untell(1): it is so already", x.untell(1), false);
        due("untell(2): none such", x.untell(2), false);
        Check.reword(x, 0, "x");
        Check.reword(x, 1, "if is c x then y else as c");
        Check.reword(x, 2, "fewest in t");
        due("countings", x.countings(), 1);
        due("counting(0,1)", x.counting(0, 1), 2);
        due("left by a's", x.left(7), 1);
        due("back(2)", x.back(2), 3);
        due("left(6): none told yet", x.left(6), 3);
        due("left(7)", x.left(7), 0);
        due("untell(2)", x.untell(2), true);
        due("sure(1,7) by the two others", x.sure(1, 7), 2);
        due("untell(0)", x.untell(0), true);
        due("untell(1)", x.untell(1), true);
        due("left(7) by none", x.left(7), 3);
        // Whose HAND it is: of two who are not alike.
        BallotRing y = CHECK.ring(THREE);
        Check.reword(y, 0, "blank");
        Check.reword(y, 1, "x");
        Check.reword(y, 2, "y");
        y.image(0);
        y.hand(1, 1);
        y.image(1);
        y.back(0);
        y.hand(0, 0);
        y.back(1);
        due("left: b has x", y.left(0), 1);
        y.back(0);
        y.hand(2, 1);
        due("left: c has not", y.left(0), 0);
        y.back(1);
        due("left: b has it still", y.left(0), 1);
    }

    private static void aboutAll() {
        // Promise 31: "NONE for another what."
        BallotRing x = CHECK.ring(FULL);
        CHECK.allOut("about", x, 8, (r, what) -> r.about(what), -1);
        x.hand(0, 0);
        x.later(1000);
        feedBlanks(x);
        int[] want = {3, 4, 8, 8, 1, 1000, 20, 8};
        for (int what = 0; what < 8; what++) {
            due("about(" + what + ") of a full town", x.about(what), want[what]);
        }
        // "3: ballots told in the ROLL": not those that were reworded since.
        BallotRing y = CHECK.ring(THREE.replace("ballot c as a;", ""));
        due("about(3)", y.about(3), 2);
        due("reword(2)", Check.reword(y, 2, "if 1 then x else y"), 5);
        due("about(3) stays", y.about(3), 2);
        due("about(7) does not", y.about(7), 5);
    }

    /** A small town in which there is something of everything: marks, hands told and untold, two boxes, a wording. */
    private static BallotRing busy() {
        BallotRing x = new BallotRing();
        Check.roll(x, THREE);
        x.mark(0, 1);
        x.hand(0, 1);
        x.image(0);
        x.later(1);
        x.hand(1, 2);
        x.mark(2, 2);
        x.untell(0);
        Check.reword(x, 1, "if is c x then x else as c");
        x.image(1);
        x.later(1);
        x.hand(2, 0);
        x.mark(1, 2);
        Check.write(x, "fewest in s");
        return x;
    }

    /** A call that is refused answers so, and leaves all that can be asked as it was. */
    private static void refused(String name, Check.Call call, long want) {
        BallotRing x = busy();
        String before = Check.seen(x);
        due(name, call.on(x), want);
        CHECK.due("behind " + name, Check.seen(x), before);
        BallotRing twin = busy();
        for (int box = 0; box < 3; box++) {
            due("back(" + box + ") behind " + name, x.back(box), twin.back(box));
            CHECK.due("box " + box + " behind " + name, Check.seen(x), Check.seen(twin));
        }
    }

    /** The same, where the TAPE and the FAULT stay, too. */
    private static void refusedWithTape(String name, Check.Call call, long want) {
        refused(name, call, want);
        BallotRing x = busy();
        due(name, call.on(x), want);
        due("about(6) behind " + name, x.about(6), 11);
        due("fault(0) behind " + name, x.fault(0), 0);
        due("fault(1) behind " + name, x.fault(1), -1);
        due("reword(0) by the tape behind " + name, x.reword(0), 5);
    }

    private static void refusals() {
        // Promise 4, 5: "NONE: a FAULT (all stays)", whichever FAULT it is, and wherever.
        for (String text : new String[] {"%", "name x;%", ";", "name x", "name x;name x;", "street s;voter a at s weight 0;",
            "ballot a x;", FULL + "%", FULL + "ballot a x;", THREE + "name z", "name x;".repeat(4)}) {
            refused("roll() of " + text, r -> Check.roll(r, text), -1);
        }
        for (String text : new String[] {"", "%", "x;", "x %", "as b", "as z", "z", "most in z", "if 1 then x", "if 1",
            "if 0" + "+1".repeat(80) + " then x else y", "if 1 then x else ".repeat(8) + "y"}) {
            refused("reword(1) by " + text, r -> Check.reword(r, 1, text), -1);
        }
        // Promise 5: "-2, and the TAPE stays".
        refusedWithTape("reword(3)", r -> r.reword(3), -2);
        refusedWithTape("reword(-1)", r -> r.reword(-1), -2);
        // Promise 3: "NONE, doing nothing".
        refusedWithTape("end(12)", r -> r.end(12), -1);
        refusedWithTape("end(-1)", r -> r.end(-1), -1);
        // Promise 15: "false, doing nothing, if one can't be".
        refusedWithTape("mark(3,0)", r -> r.mark(3, 0) ? 1 : 0, 0);
        refusedWithTape("mark(-1,0)", r -> r.mark(-1, 0) ? 1 : 0, 0);
        refusedWithTape("mark(0,3)", r -> r.mark(0, 3) ? 1 : 0, 0);
        refusedWithTape("mark(0,-1)", r -> r.mark(0, -1) ? 1 : 0, 0);
        refusedWithTape("open(3)", r -> r.open(3), -1);
        refusedWithTape("open(-1)", r -> r.open(-1), -1);
        // Promise 24: "NONE, doing nothing, if one can't be".
        refusedWithTape("hand(3,0)", r -> r.hand(3, 0), -1);
        refusedWithTape("hand(-1,0)", r -> r.hand(-1, 0), -1);
        refusedWithTape("hand(0,3)", r -> r.hand(0, 3), -1);
        refusedWithTape("hand(0,-1)", r -> r.hand(0, -1), -1);
        // Promise 25: "false if it is so already, or there is none such".
        refusedWithTape("untell(0)", r -> r.untell(0) ? 1 : 0, 0);
        refusedWithTape("untell(3)", r -> r.untell(3) ? 1 : 0, 0);
        refusedWithTape("untell(-1)", r -> r.untell(-1) ? 1 : 0, 0);
        // Promise 26: "NONE, doing nothing, for another number".
        refusedWithTape("later(-1)", r -> r.later(-1), -1);
        refusedWithTape("later(1001)", r -> r.later(1001), -1);
        // Promises 29, 30: "NONE if there is none such"; "NONE, doing nothing, if nothing was".
        refusedWithTape("image(3)", r -> r.image(3), -1);
        refusedWithTape("image(-1)", r -> r.image(-1), -1);
        refusedWithTape("back(2)", r -> r.back(2), -1);
        refusedWithTape("back(3)", r -> r.back(3), -1);
        refusedWithTape("back(-1)", r -> r.back(-1), -1);
        // Calls that only ask leave all as it was, whether they are refused or not.
        refusedWithTape("rest(321)", r -> r.rest(321), 0);
        refusedWithTape("rest(322)", r -> r.rest(322), -2);
        refusedWithTape("more(1,2)", r -> r.more(1, 2), 3);
        refusedWithTape("more(2,2)", r -> r.more(2, 2), -1);
        refusedWithTape("shown(3,0,0)", r -> r.shown(3, 0, 0), 4096);
        refusedWithTape("says(0)", r -> r.says(0), 2);
        // Promise 24: "or there are 20"; promise 2: "NONE, and nothing comes, if there would be more than 1,600".
        BallotRing x = busy();
        for (int i = 3; i < 20; i++) {
            due("hand " + i, x.hand(0, 2), i);
        }
        String full = Check.seen(x);
        due("a 21st hand", x.hand(1, 1), -1);
        CHECK.due("behind a 21st hand", Check.seen(x), full);
        x.end(0);
        for (int i = 0; i < 80; i++) {
            feedBlanks(x);
        }
        due("feed of a full tape", x.feed(0x25252525, 0, 0, 0, 0), -1);
        CHECK.due("behind a feed of a full tape", Check.seen(x), full);
        due("about(6) of a full tape", x.about(6), 1600);
        due("roll() of the full tape", x.roll(), 0);
        due("fault(1): nothing came", x.fault(1), -1);
    }
}
