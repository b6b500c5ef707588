import java.util.List;

/** For each sentence of the Terms that names a boundary, texts and calls on both of its sides; the remarks quote it. */
public final class TermsEdgesTest {
    private static final Check CHECK = new Check();
    private static final String HEAD = "name x;name y;street s;street t;voter a at s weight 1;voter b at t weight 9;";
    private static final String[] WORDS = {"name", "street", "voter", "at", "weight", "ballot", "if", "then", "else",
        "blank", "as", "most", "in", "fewest", "or", "and", "not", "votes", "blanks", "is"};
    private static final String SIGNS = ";()<>=+-";

    public static void main(String[] args) {
        lengthOfTheText();
        signsOfTokens();
        lengthOfWords();
        lengthOfNumbers();
        longestTokens();
        wordsThatAreNoNames();
        oneTooMany();
        weights();
        ballotsOnce();
        toldAhead();
        oneRelation();
        eightyUnits();
        sixOthers();
        theFirstFault();
        theEnd();
        toldAlready();
        toldByEarlierRolls();
        noneOfTheSort();
        CHECK.close("TermsEdgesTest");
    }

    private static void due(String call, long got, long want) {
        CHECK.due(call, got, want);
    }

    private static void fault(int which, String marked) {
        CHECK.fault(which, marked);
    }

    private static void stands(int voters, String text) {
        CHECK.stands(voters, text);
    }

    private static void ballotFault(int which, String marked) {
        fault(which, HEAD + "ballot b " + marked);
    }

    private static void ballotStands(String wording) {
        stands(2, HEAD + "ballot b " + wording + ";");
    }

    private static String times(int n, String s) {
        return s.repeat(n);
    }

    /** A number of units, as a sum. */
    private static String sum(int units) {
        return "0" + times(units - 1, "+1");
    }

    private static String eightVoters() {
        StringBuilder text = new StringBuilder("street s;");
        for (char c = 'a'; c <= 'h'; c++) {
            text.append("voter ").append(c).append(" at s weight 1;");
        }
        return text.toString();
    }

    private static void lengthOfTheText() {
        // Terms 1: "A ROLL is a text of at most 1,600 bytes": one that is full, to its last byte.
        String full = "name x;" + times(1600 - 16, " ") + "street s;";
        BallotRing x = CHECK.ring(full);
        due("a full text's name", x.about(0), 1);
        due("a full text's street", x.about(1), 1);
        fault(1, times(1599, "\n") + "@%");
        fault(2, times(1599, " ") + "@;");
        fault(2, "name x;" + times(1600 - 15, " ") + "street s@");
        stands(0, times(1600, " "));
        // Most tokens that a full text can have: a name and signs.
        fault(2, "name x;" + "@" + times(1593, ";"));
        fault(2, HEAD + "ballot b if 1" + "@" + times(1500, ")"));

        // Terms 1: "(empty at first)", "roll = {line}": no line at all is a roll, too.
        BallotRing y = new BallotRing();
        due("nothing on the tape at first", y.about(6), 0);
        due("roll() of an empty text", y.roll(), 0);
        due("fault(0) of an empty text", y.fault(0), 0);
        stands(0, "name x;");
    }

    private static void signsOfTokens() {
        // The sign @ marks places in these texts, so it is looked at alone.
        BallotRing x = new BallotRing();
        Check.write(x, "name x; @");
        due("roll() of @", x.roll(), -1);
        due("fault(0) of @", x.fault(0), 1);
        due("fault(1) of @", x.fault(1), 8);
        // Terms 1: "TOKENS: words (a .. z), N, signs ; ( ) < > = + -; blanks (32, 10)": each byte, where a line begins.
        for (char c = 0; c < 256; c++) {
            if (c == '@') {
                continue;
            }
            boolean letterOrDigit = c >= 'a' && c <= 'z' || c >= '0' && c <= '9';
            if (c == 32 || c == 10) {
                stands(0, "name x;" + c);
                stands(0, c + "name" + c + "x" + c + ";" + c);
            } else {
                fault(letterOrDigit || SIGNS.indexOf(c) >= 0 ? 2 : 1, "name x;@" + c);
            }
        }
        // The same within a word: only a letter goes on with it.
        for (char c = 0; c < 256; c++) {
            if (c == '@') {
                continue;
            }
            if (c >= 'a' && c <= 'z') {
                stands(0, "name r" + c + "d;");
            } else if (c == 32 || c == 10 || c == ';') {
                fault(2, "name r" + c + "@d;");
            } else {
                fault(c >= '0' && c <= '9' || SIGNS.indexOf(c) < 0 ? 1 : 2, "name r@" + c + "d;");
            }
        }
    }

    private static void lengthOfWords() {
        // Terms 1: "words (a .. z, 8 at most)".
        stands(0, "name a;name z;");
        stands(0, "name zzzzzzzz;name aaaaaaaa;name azazazaz;");
        stands(1, "street streetsa;voter votersab at streetsa weight 1;ballot votersab blank;");
        for (int letters : new int[] {9, 10, 12, 13, 14, 16, 64, 1000}) {
            fault(1, "name @" + times(letters, "a") + ";");
            fault(1, "@" + times(letters, "z") + " x;");
        }
        // A word whose letters are all told is another one than a shorter one of its letters.
        stands(0, "name aaaaaaaa;name aaaaaaa;name baaaaaaa;");
        fault(3, "name aaaaaaab;name @aaaaaaab;");
        // Words are alike if each of their letters is: any other letter at any place makes another one.
        for (String word : new String[] {"aaaaaaaa", "zzzzzzzz", "mapqbloz", "m"}) {
            for (int i = 0; i < word.length(); i++) {
                for (char c = 'a'; c <= 'z'; c++) {
                    String other = word.substring(0, i) + c + word.substring(i + 1);
                    if (other.equals(word)) {
                        fault(3, "name " + word + ";name @" + other + ";");
                    } else {
                        stands(0, "name " + word + ";name " + other + ";");
                    }
                }
            }
        }
    }

    private static void lengthOfNumbers() {
        // Terms 1: "N (1 to 4 digits)".
        ballotStands("if 0 then x else y");
        ballotStands("if 9999 then x else y");
        ballotStands("if 0000 then x else y");
        ballotFault(1, "if @10000 then x else y");
        ballotFault(1, "if @00000 then x else y");
        // One whose digits go round an int, or a long, to what could stand there.
        fault(1, "street s;voter a at s weight @4294967297;");
        fault(1, "street s;voter a at s weight @18446744073709551617;");
        fault(1, "street s;voter a at s weight @" + times(300, "0") + "1;");

        // Terms 1: "no letter directly behind an N".
        ballotFault(1, "if @1then x else y");
        ballotFault(1, "if @9999a");
        ballotFault(1, "if @0z");
        ballotStands("if 1 then x else y");
        ballotStands("if 1\nthen x else y");
        ballotStands("if 1+1>1 and 1=(1)then x else y");
        // A letter directly before one, or a sign, is fine.
        ballotStands("if blanks<1 or not0 then x else y");
        stands(1, "street s;voter a at s weight9;");
    }

    private static void longestTokens() {
        // Terms 1: "blanks part them or not; each is as long as can be".
        fault(2, "@namex;");
        fault(2, "name x\n @y;");
        fault(2, "@na me x;");
        fault(2, "street s;voter a @ats weight 1;");
        ballotFault(5, "@blankx;");
        ballotStands("if(blanks)then x else y");
        ballotFault(5, "@blanksin;");
        ballotFault(2, "if @blanksin s then x else y");
        ballotStands("if blanks in s then x else y");
        ballotFault(2, "if 12 @34 then x else y");
        stands(0, times(20, "\n") + "name" + times(20, " ") + "x" + times(20, "\n ") + ";" + times(20, " "));
        stands(1, "name x;street s;voter a at s weight 1;ballot a if(1<2)=(3-2)then x else blank;");
    }

    private static void wordsThatAreNoNames() {
        // Terms 1: "Words that stand for themselves here are no NAMES": each, wherever a NAME stands.
        for (String own : WORDS) {
            fault(2, "name @" + own + ";");
            fault(2, "street @" + own + ";");
            fault(2, "voter @" + own + " at s weight 1;");
            fault(2, "street s;voter a at @" + own + " weight 1;");
            fault(2, HEAD + "ballot @" + own + " x;");
            ballotFault(2, "as @" + own + ";");
            ballotFault(2, "most in @" + own + ";");
            ballotFault(2, "fewest in @" + own + ";");
            ballotFault(2, "if votes @" + own + " then x else y;");
            ballotFault(2, "if votes x in @" + own + " then x else y;");
            ballotFault(2, "if blanks in @" + own + " then x else y;");
            ballotFault(2, "if is @" + own + " x then x else y;");
            ballotFault(2, "if is a @" + own + " then x else y;");
            // A word of one letter more, less, or another one, is a NAME, but where it is such a word, too.
            stands(0, "name " + own + "q;");
            for (int i = 0; i < own.length(); i++) {
                freeOrOwn(own.substring(0, i) + own.substring(i + 1));
                for (char c = 'a'; c <= 'z'; c++) {
                    freeOrOwn(own.substring(0, i) + c + own.substring(i + 1));
                }
            }
        }
        for (String free : new String[] {"nam", "names", "blan", "mos", "roll", "f", "e", "n", "i", "o", "wei", "fewes"}) {
            stands(0, "name " + free + ";street " + free + ";");
        }
    }

    private static void freeOrOwn(String word) {
        if (List.of(WORDS).contains(word)) {
            fault(2, "name @" + word + ";");
        } else {
            stands(0, "name " + word + ";");
        }
    }

    private static void oneTooMany() {
        // Terms 1: "At most 3 names, 4 STREETS, 8 VOTERS"; "one of a sort too many: at the line's first word".
        String full = "name a;name b;name c;street a;street b;street c;" + eightVoters();
        stands(8, full);
        fault(2, full + "@name d;");
        fault(2, full + "@name a;");
        fault(2, full + "@name if;");
        fault(2, full + "@name %");
        fault(2, full + "@name");
        fault(2, full + "@street d;");
        fault(2, full + "@street s;");
        fault(2, full + "@voter i at s weight 1;");
        fault(2, full + "@voter a at s weight 1;");
        fault(2, full + "@voter i at z weight 99;");
        stands(8, full + "ballot h as a;ballot a as h;");
        due("names when full", CHECK.ring(full).about(0), 3);
        due("streets when full", CHECK.ring(full).about(1), 4);
        due("voters when full", CHECK.ring(full).about(2), 8);
        stands(0, "name a;name b;");
        fault(2, "name a;name b;name c;street s;voter a at s weight 1;@name d;");

        // Terms 1: "numbered as told": the first of each is 0, the last of a full one 2, 3 and 7.
        BallotRing x = CHECK.ring("name c;name b;name a;street d;street c;street b;street a;voter h at a weight 1;"
            + "voter g at b weight 1;voter f at c weight 1;voter e at d weight 1;voter d at a weight 1;"
            + "voter c at b weight 1;voter b at c weight 1;voter a at d weight 1;ballot h as a;ballot a if is h c or "
            + "votes a in d then c else a;ballot e fewest in a;");
        due("the last voter", x.looks(0), 0x80);
        due("the first and the others of street 0", x.looks(7), 0x09);
        due("those of street 3", x.looks(3), 0x11);
        due("the last name", x.says(7), 3);
        due("of like ones the first name", x.says(3), 1);
    }

    private static void weights() {
        // Terms 1: "weight 1 .. 9"; "4 a number that can't be".
        for (int weight = 0; weight < 10000; weight = weight < 20 ? weight + 1 : weight * 3) {
            String head = "street s;voter a at s weight ";
            if (weight >= 1 && weight <= 9) {
                stands(1, head + weight + ";");
                stands(1, head + "00" + weight + ";");
                stands(1, head + "000" + weight + ";");
                stands(1, "name x;street s;voter a at s weight " + weight + ";");
            } else {
                fault(4, head + "@" + weight + ";");
                fault(4, head + "@" + weight);
            }
        }
        fault(4, "street s;voter a at s weight @0000;");
        fault(4, "street s;voter a at s weight @0010;");
        fault(4, "street s;voter a at s weight @9999 %");
        // Weights count as told, the greatest and the least.
        BallotRing x = CHECK.ring(HEAD + "voter c at s weight 1;ballot c if votes x = 1 and votes y = 9 then x else y;");
        x.mark(0, 1);
        x.mark(1, 2);
        due("weights 1 and 9", x.says(2), 1);
    }

    private static void ballotsOnce() {
        // Terms 1: "a ballot of a VOTER told ahead": one told behind it is none of the sort.
        fault(5, "street s;ballot @a blank;voter a at s weight 1;");
        fault(5, "name a;street a;ballot @a blank;");
        fault(5, HEAD + "ballot @x blank;");
        // Terms 1: "once"; "3 a VOTER's ballot told already".
        stands(2, HEAD + "ballot a blank;ballot b blank;");
        fault(3, HEAD + "ballot a blank;ballot b blank;ballot @a blank;");
        fault(3, HEAD + "ballot b blank;ballot a blank;ballot @b %");
        fault(3, HEAD + "ballot b blank;voter c at s weight 1;ballot @b as c;");
        // Terms 1: "(without one: blank)".
        BallotRing x = CHECK.ring(HEAD + "ballot b as a;");
        x.mark(0, 1);
        x.mark(1, 1);
        due("without a ballot: blank", x.says(0), 0);
        due("without a ballot: no looks", x.looks(0), 0);
        due("without a ballot: no units", x.about(7), 1);
        due("without a ballot: a counting of blanks", x.countings(), 1);
        due("without a ballot: the blank in it", x.counting(0, 0), 0);
    }

    private static void toldAhead() {
        // Terms 1: "In a ballot the NAME of mark, of votes, the second one of is: a name told ahead".
        ballotFault(5, "@z;name z;");
        ballotFault(5, "if votes @z then x else y;name z;");
        ballotFault(5, "if is a @z then x else y;name z;");
        stands(2, HEAD + "name z;ballot b if votes z and is a z then z else x;");
        // Terms 1: "of as, the first one of is: a VOTER told ahead of the ballot".
        ballotFault(5, "as @c;voter c at s weight 1;");
        ballotFault(5, "if is @c x then x else y;voter c at s weight 1;");
        stands(3, HEAD + "voter c at s weight 1;ballot b if is c x then as c else as a;");
        // Terms 1: "not the ballot's own"; "3 the ballot's own VOTER behind as or is (at that NAME)".
        ballotFault(3, "as @b;");
        ballotFault(3, "if is @b x then x else y;");
        ballotFault(3, "if is @b z then x else y;");
        ballotFault(3, "if is a x then as a else if is a y then as a else as @b;");
        fault(3, HEAD + "ballot a as @a;");
        fault(3, eightVoters() + "ballot h as @h;");
        stands(8, eightVoters() + "ballot h as a;ballot a as h;");
        // Terms 1: "behind in: a STREET told ahead".
        ballotFault(5, "most in @r;street r;");
        ballotFault(5, "fewest in @r;street r;");
        ballotFault(5, "if votes x in @r then x else y;street r;");
        ballotFault(5, "if blanks in @r then x else y;street r;");
        stands(2, HEAD + "street r;ballot b if votes x in r or blanks in r then most in r else fewest in r;");
        // Terms 1: "VOTERS (in a STREET told ahead)".
        fault(5, "voter a at @s weight 1;");
        fault(5, "street t;voter a at @s weight 1;street s;");
        fault(5, "name s;voter a at @s weight 1;");
        // Voters told behind a ballot are among its others nevertheless.
        due("looks at those told later", CHECK.ring(HEAD + "ballot a most;voter c at t weight 1;").looks(0), 6);
    }

    private static void oneRelation() {
        // Terms 1: "one = not one | sum [(< | > | =) sum]": one relation at most, and no not within a sum or behind its sign.
        for (char first : "<>=".toCharArray()) {
            for (char second : "<>=".toCharArray()) {
                ballotStands("if 1" + first + "2 and 3" + second + "4 then x else y");
                ballotStands("if (1" + first + "2)" + second + "3 then x else y");
                ballotStands("if 1" + first + "(2" + second + "3) then x else y");
                ballotFault(2, "if 1" + first + "2@" + second + "3 then x else y");
                ballotFault(2, "if not 1+1" + first + "2-1@" + second + "3 then x else y");
                ballotFault(2, "if 1 or (1" + first + "2 + 3@" + second + "4) then x else y");
                ballotFault(2, "if 1" + first + "@" + second + "3 then x else y");
            }
            ballotFault(2, "if 1" + first + "@not 2 then x else y");
            ballotFault(2, "if not 1" + first + "1+@not 2 then x else y");
            ballotFault(2, "if @" + first + "1 then x else y");
            ballotFault(2, "if 1" + first + "@ then x else y".replace("@ ", " @"));
        }
        for (char sign : "+-".toCharArray()) {
            ballotStands("if 1" + sign + "(not 2) then x else y");
            ballotFault(2, "if 1" + sign + "@not 2 then x else y");
            ballotFault(2, "if @" + sign + "1 then x else y");
            ballotFault(2, "if 1" + sign + "@" + sign + "1 then x else y");
            ballotFault(2, "if (1" + sign + "@) then x else y");
        }
    }

    private static void eightyUnits() {
        // Terms 1: "80 units in all (marks count as units, too)"; "an 81st unit: at its first TOKEN": each kind of mark.
        for (String mark : new String[] {"x", "blank", "as a", "most", "most in s", "fewest", "fewest in t"}) {
            BallotRing x = CHECK.ring(HEAD + "ballot b if " + sum(78) + " then x else " + mark + ";");
            due("80 units, the last one " + mark, x.about(7), 80);
            ballotFault(2, "if " + sum(79) + " then x else @" + mark + ";");
            ballotFault(2, "if " + sum(80) + " then @" + mark + " else x;");
            fault(2, HEAD + "ballot b if " + sum(78) + " then x else y;ballot a @" + mark.replace("as a", "as b") + ";");
        }
        // Each kind of unit in a question; ( f ) counts itself, and what is in it.
        for (String unit : new String[] {"7", "votes x", "votes y in s", "blanks", "blanks in t", "is a x", "(1)"}) {
            int more = unit.startsWith("(") ? 2 : 1;
            BallotRing x = CHECK.ring(HEAD + "ballot b if " + sum(78 - more) + "+" + unit + " then x else y;");
            due("80 units, one of them " + unit, x.about(7), 80);
            ballotFault(2, "if " + sum(79 - more) + "+" + unit + " then x else @y;");
            ballotFault(2, "if " + sum(80) + "+@" + unit + " then x else y;");
            ballotFault(2, "if " + sum(80) + " and not @" + unit + " then x else y;");
            ballotFault(2, "if " + sum(80) + " < @" + unit + " then x else y;");
        }
        ballotFault(2, "if " + sum(79) + "+(@1) then x else y;");
        // What is told of an 81st one comes too late: not its NAME, its own VOTER, nor what is no such STREET.
        ballotFault(2, "if " + sum(79) + " then x else @z;");
        ballotFault(2, "if " + sum(79) + " then x else @as b;");
        ballotFault(2, "if " + sum(79) + " then x else @most in z;");
        ballotFault(2, "if " + sum(80) + "+@votes z;");
        ballotFault(2, "if " + sum(80) + "+@is b z;");
        // An if, and a not, are no units.
        BallotRing y = CHECK.ring(HEAD + "ballot a if not not 1 then if 0 then x else y else blank;ballot b if " + sum(73)
            + " then x else y;");
        due("80 units by two ballots", y.about(7), 80);
        // Of all ballots together: the last of eight.
        String seven = eightVoters() + "name x;";
        for (char c = 'a'; c < 'h'; c++) {
            seven += "ballot " + c + " if " + sum(9) + " then x else x;";
        }
        stands(8, seven + "ballot h if 1 then x else x;");
        stands(8, seven + "ballot h if 0 then as a else as b;");
        fault(2, seven + "ballot h if 1+2 then x else @x;");
    }

    private static String nots(int n) {
        return times(n, "not ");
    }

    private static void sixOthers() {
        // Terms 1: "an if, a unit ( f ), or a one behind not, within 6 others at most"; "what is within 7 others: at its
        // first TOKEN, the if, or the not": so many ifs, and the rest in the question of the last of them.
        for (int ifs = 1; ifs <= 7; ifs++) {
            int rest = 7 - ifs;
            for (String branch : new String[] {"if 1 then ", "if 1 then x else "}) {
                String tail = branch.endsWith("else ") ? "" : times(ifs - 1, " else y");
                String head = times(ifs - 1, branch) + "if ";
                ballotStands(head + times(rest, "(") + "1" + times(rest, ")") + " then x else y" + tail);
                ballotStands(head + nots(rest) + "1 then x else y" + tail);
                ballotFault(2, head + times(rest, "(") + "@(1" + times(rest + 1, ")") + " then x else y" + tail);
                ballotFault(2, head + times(rest, "(") + "@not 1" + times(rest, ")") + " then x else y" + tail);
                ballotFault(2, head + nots(rest) + "@not 1 then x else y" + tail);
                ballotFault(2, head + nots(rest) + "@(1) then x else y" + tail);
                ballotFault(2, head + times(rest, "(") + "0+@(1");
                ballotFault(2, head + times(rest, "(") + "1<@(1");
                ballotFault(2, head + times(rest, "(") + "1 or @not 1");
            }
        }
        ballotStands(times(7, "if 1 then ") + "x" + times(7, " else y"));
        ballotFault(2, times(7, "if 1 then ") + "@if 1 then x else y");
        ballotFault(2, times(7, "if 1 then x else ") + "@if 1 then x else y");
        ballotFault(2, times(7, "if 1 then x else ") + "@if %");
        // What has been left, is not around what comes behind it.
        String six = times(6, "(") + "1" + times(6, ")");
        ballotStands("if " + six + "<" + six + " and " + nots(6) + "1 or " + six + " then x else y");
        ballotFault(2, "if " + six + " and " + nots(6) + "1 or " + times(6, "(") + "@(1");
        ballotStands("if " + nots(6) + "1 = 2 and " + six + " then if (((((1))))) then x else y else if "
            + nots(5) + "1 then y else x");
        ballotFault(2, "if " + six + " then if ((((1)))) then x else y else if " + times(5, "(") + "@(1");
        // A one behind not goes on to the end of its relation, so what is in there is within it.
        ballotFault(2, "if " + nots(6) + "1 = @(1)");
        ballotFault(2, "if " + nots(6) + "1 + 1 - @(1)");
        ballotStands("if " + nots(5) + "1 = (1) then x else y");
        // The next ballot begins anew.
        stands(2, HEAD + "ballot a if " + six + " then x else y;ballot b if " + six + " then x else y;");
    }

    private static void theFirstFault() {
        // Terms 1: "FAULTS, the first by its place": an earlier one of a greater number before a later one.
        fault(5, HEAD + "ballot @z % ");
        fault(5, HEAD + "ballot b @z ; ; %");
        fault(4, "street s;voter a at s weight @0 % ;");
        fault(3, "name x;name @x %");
        fault(3, "name x;name @x x");
        fault(2, "name x @name %;");
        fault(2, "@x y z 12345 %");
        // Terms 1: "at one place the least": no TOKEN before all others, and an 81st unit before what its NAME is.
        fault(1, "name a;name b;name c;@namenamen d;");
        ballotFault(1, "if " + sum(80) + "+@12345 then x else y;");
        ballotFault(1, "if " + sum(79) + " then x else @zzzzzzzzz;");
        ballotFault(1, times(7, "if 1 then x else ") + "@ifififififif 1 then x else y;");
        ballotFault(1, "as @bbbbbbbbb;");
        fault(1, "street s;voter a at s weight @00000;");
        ballotFault(2, "if " + sum(79) + " then x else @a;");
        // Terms 1: "(bytes from 0)".
        fault(2, "@;");
        fault(1, "@%");
        fault(1, "@\u00ff");
    }

    private static void theEnd() {
        // Terms 1: "(the end: the text's length)": a text that ends too early, wherever it does.
        String whole = HEAD + "ballot b if not ( is a x + 1 ) < votes y in s and blanks in t or 2 then as a else if 0 then "
            + "most in s else fewest ;";
        stands(2, whole);
        for (int end = 0; end <= whole.length(); end++) {
            boolean within = end < whole.length() && isLetter(whole, end) && end > 0 && isLetter(whole, end - 1);
            if (within) {
                continue;
            }
            String part = whole.substring(0, end);
            if (part.isBlank() || part.stripTrailing().endsWith(";")) {
                stands(part.contains("voter b") ? 2 : part.contains("voter a") ? 1 : 0, part);
            } else {
                fault(2, part + "@");
                fault(2, part + " \n @");
            }
        }
        // A full text that ends too early: its length is 1,600.
        BallotRing x = new BallotRing();
        due("roll() of a full one", Check.roll(x, "name x;" + times(1600 - 13, "\n") + "name y"), -1);
        due("fault(0) of a full one", x.fault(0), 2);
        due("fault(1) of a full one", x.fault(1), 1600);
        wordingsThatEndTooEarly();
    }

    /** Terms 1: "2 one that can't stand there": the line's end within a wording, and the text's end in a reword. */
    private static void wordingsThatEndTooEarly() {
        String whole = "if not ( is a x + 1 - 2 ) < votes y in s and blanks in t or 2 then if 1 = 1 then as a else blank else "
            + "if 0 > 3 then most in s else fewest in t";
        StringBuilder part = new StringBuilder();
        for (String token : whole.split(" ")) {
            part.append(part.length() == 0 ? "" : " ");
            endsTooEarly(part.toString(), part.toString().endsWith("fewest "));
            part.append(token);
            endsTooEarly(part.toString(), token.equals("fewest") || part.toString().equals(whole));
        }
    }

    private static void endsTooEarly(String part, boolean isOne) {
        BallotRing x = CHECK.ring(HEAD);
        due("reword(1) by " + part, Check.reword(x, 1, part) > 0 ? 1 : 0, isOne ? 1 : 0);
        due("fault(0) of " + part, x.fault(0), isOne ? 0 : 2);
        due("fault(1) of " + part, x.fault(1), isOne ? -1 : part.length());
        if (isOne) {
            ballotStands(part);
        } else {
            ballotFault(2, part + "@;");
        }
    }

    private static boolean isLetter(String s, int i) {
        return s.charAt(i) >= 'a' && s.charAt(i) <= 'z';
    }

    private static void toldAlready() {
        // Terms 1: "3 a NAME told already (of its sort)": of another sort it may be told.
        fault(3, "name x;name y;name @y;");
        fault(3, "street a;street b;street c;street @a;");
        fault(3, eightVoters().replace("voter h", "voter @a"));
        fault(3, eightVoters().replace("voter h", "voter @g"));
        stands(1, "name x;street x;voter x at x weight 1;ballot x if votes x in x then most in x else x;");
        // At that NAME, before what comes behind it.
        fault(3, "street s;voter a at s weight 1;voter @a at a weight 0;");
        // What was told by a roll with a FAULT, or an earlier roll, is not told already.
        BallotRing x = new BallotRing();
        due("a roll", Check.roll(x, "name x;street s;"), 0);
        due("the same again", Check.roll(x, "name x;street s;"), 0);
        due("one with a fault", Check.roll(x, "name z;name z;"), -1);
        due("behind a fault", Check.roll(x, "name z;street s;voter a at s weight 1;ballot a z;"), 1);
        due("again", Check.roll(x, "name z;street s;voter a at s weight 1;ballot a z;"), 1);
    }

    /** Terms 1: what was told by earlier rolls is not told ahead, however many there were. */
    private static void toldByEarlierRolls() {
        String many = "name x;name y;street s;street t;voter a at s weight 1;voter b at t weight 9;voter c at t weight 9;"
            + "ballot a x;ballot b y;ballot c x;";
        String few = "name x;street s;voter a at s weight 1;voter d at s weight 1;ballot d ";
        for (String marked : new String[] {"@y;", "as @b;", "as @c;", "most in @t;", "if is @b x then x else x;",
            "if is a @y then x else x;", "if votes @y then x else x;", "if blanks in @t then x else x;",
            "x;ballot @b x;", "x;voter e at @t weight 1;"}) {
            BallotRing x = CHECK.ring(many);
            due("the same again", Check.roll(x, many), 3);
            due("roll() of " + few + marked, Check.roll(x, few + marked.replace("@", "")), -1);
            due("fault(0) of " + few + marked, x.fault(0), 5);
            due("fault(1) of " + few + marked, x.fault(1), few.length() + marked.indexOf('@'));
        }
        // Nor are ballots: without one: blank.
        BallotRing x = CHECK.ring(many);
        due("the same again", Check.roll(x, many), 3);
        due("few", Check.roll(x, few + "as a;"), 2);
        due("without a ballot: blank", x.says(0), 0);
        due("without a ballot: no units", x.about(7), 1);
        due("ballots told in the roll", x.about(3), 1);
        due("a ballot that was told by an earlier roll", Check.roll(x, few + "x;ballot a x;"), 2);
    }

    private static void noneOfTheSort() {
        // Terms 1: "5 a NAME that is none of the sort that must stand there".
        String head = "name n;street s;voter v at s weight 1;voter w at s weight 1;";
        String[] sorts = {"n", "s", "v", "zz"};
        for (int i = 0; i < sorts.length; i++) {
            String is = sorts[i];
            boolean name = i == 0;
            boolean street = i == 1;
            boolean voter = i == 2;
            sort(name, head + "ballot w @" + is + ";");
            sort(name, head + "ballot w if votes @" + is + " then n else blank;");
            sort(name, head + "ballot w if is v @" + is + " then n else blank;");
            sort(voter, head + "ballot w as @" + is + ";");
            sort(voter, head + "ballot w if is @" + is + " n then n else blank;");
            sort(voter, head + "ballot @" + is + " n;");
            sort(street, head + "ballot w most in @" + is + ";");
            sort(street, head + "ballot w fewest in @" + is + ";");
            sort(street, head + "ballot w if votes n in @" + is + " then n else blank;");
            sort(street, head + "ballot w if blanks in @" + is + " then n else blank;");
            sort(street, head + "voter x at @" + is + " weight 1;");
        }
    }

    private static void sort(boolean right, String marked) {
        if (right) {
            stands(marked.contains("voter x") ? 3 : 2, marked.replace("@", ""));
        } else {
            fault(5, marked);
        }
    }
}
