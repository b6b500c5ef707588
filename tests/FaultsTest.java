/** Texts with a FAULT, whose place is marked by @, and texts that stand (Terms 1, promises 4, 5 and 6). */
public final class FaultsTest {
    private static final Check CHECK = new Check();
    private static final String HEAD = "name x;name y;street s;street t;voter a at s weight 1;voter b at t weight 9;";

    public static void main(String[] args) {
        lines();
        tokens();
        tellings();
        wordings();
        nesting();
        units();
        rewordings();
        CHECK.close("FaultsTest");
    }

    private static void fault(int which, String marked) {
        CHECK.fault(which, marked);
    }

    private static void stands(int voters, String text) {
        CHECK.stands(voters, text);
    }

    private static void ballotFault(int which, String marked) {
        fault(which, HEAD + "ballot b " + marked);
        fault(which, HEAD + "ballot a blank;ballot b " + marked);
    }

    private static void ballotStands(String wording) {
        stands(2, HEAD + "ballot b " + wording + ";");
    }

    private static void lines() {
        stands(0, "");
        stands(0, " \n ");
        stands(0, "name x;");
        stands(0, "\nname\nx ; ");
        fault(2, "name x@");
        fault(2, "name x  @");
        fault(2, "name@");
        fault(2, "@nam x;");
        fault(2, "@x");
        fault(2, "@5;");
        fault(2, "@if");
        fault(2, "@;");
        fault(2, "name x;@;");
        fault(2, "name @;");
        fault(2, "name x @y;");
        fault(2, "name @5;");
        fault(2, "voter @at at s");
        fault(2, "street s;voter a @s weight 1;");
        fault(2, "street s;voter a at @weight 1;");
        fault(2, "street s;voter a at s@;");
        fault(2, "street s;voter a at s weight @;");
        fault(2, "street s;voter a at s weight @x;");
        fault(2, "street s;voter a at s weight 1 @1;");
        fault(2, "name a;name b;name c;@name d;");
        fault(2, "name a;name b;name c;@name a;");
        fault(2, "street a;street b;street c;street d;@street e;");
        stands(0, "street a;street b;street c;street d;name a;name b;name c;");
        StringBuilder eight = new StringBuilder("street s;");
        for (char c = 'a'; c <= 'h'; c++) {
            eight.append("voter ").append(c).append(" at s weight 1;");
        }
        stands(8, eight.toString());
        fault(2, eight + " @voter i at s weight 1;");
        for (String own : "name street voter at weight ballot if then else blank as most in fewest or and not votes blanks is"
            .split(" ")) {
            fault(2, "name @" + own + ";");
            fault(2, "street @" + own + ";");
        }
        for (String free : "roll line mark one both sum unit e f n round row".split(" ")) {
            stands(0, "name " + free + ";");
        }
    }

    private static void tokens() {
        fault(1, "@NAME x;");
        fault(1, "name @X;");
        fault(1, "name x@_;");
        fault(1, "name x@\t;");
        fault(1, "name x@\r\n;");
        fault(1, "name x;@\u0000");
        fault(1, "name x; @\u00e9");
        stands(0, "name abcdefgh;");
        fault(1, "name @abcdefghi;");
        fault(1, "name x;@streetsss x;");
        stands(1, "street s;voter a at s weight1;");
        stands(1, "street s;voter a at s weight 0009;");
        fault(1, "street s;voter a at s weight @00009;");
        fault(1, "street s;voter a at s weight @9x;");
        fault(1, "street s;voter a at s @5x;");
        ballotFault(1, "if 1 @$ then");
        ballotFault(1, "if @1then blank else blank;");
        ballotStands("if(1)then blank else blank");
        ballotStands("if 2>1 and(1)<2 then blank else blank");
        ballotStands("if votes x in s>1 then x else as a");
        ballotFault(1, "@%");
        ballotFault(1, "as @%");
    }

    private static void tellings() {
        fault(3, "name x;name @x;");
        fault(3, "street s;name x;street @s;");
        fault(3, "street s;voter a at s weight 1;voter @a at z weight 99");
        stands(1, "name x;street x;voter x at x weight 1;");
        fault(5, "voter a at @s weight 1;street s;");
        fault(4, "street s;voter a at s weight @0;");
        fault(4, "street s;voter a at s weight @10;");
        fault(4, "street s;voter a at s weight @9999;");
        fault(5, "ballot @a blank;");
        fault(3, HEAD + "ballot a blank;ballot @a blank;");
        fault(3, HEAD + "ballot a as @a;");
        fault(3, HEAD + "ballot a if is @a z then");
        fault(5, HEAD + "ballot a as @c;voter c at s weight 1;");
        fault(5, HEAD + "ballot a @z;name z;");
        fault(5, HEAD + "ballot a most in @r;street r;");
        fault(2, HEAD + "ballot @5");
        fault(2, HEAD + "ballot @if");
        fault(2, HEAD + "ballot a@;");
    }

    private static void wordings() {
        for (String good : new String[] {"x", "blank", "as a", "most", "most in t", "fewest", "fewest in s",
            "if 0 then x else y", "if not 0 then x else if 1 then as a else most in s",
            "if 1 then if 2 then x else y else blank", "if not not 1 then x else y",
            "if 1 or 2 and 3 or not 4 = 5 then x else y", "if 1 + 2 - 3 < 4 - 5 + (6 or 7) then x else y",
            "if is a x or votes y > blanks in t and not (blanks = votes x in s) then x else y"}) {
            ballotStands(good);
        }
        ballotFault(5, "@z;");
        ballotFault(5, "@s;");
        ballotFault(5, "as @x;");
        ballotFault(5, "most in @x;");
        ballotFault(2, "most @x;");
        ballotFault(2, "most in @;");
        ballotFault(2, "most @most;");
        ballotFault(2, "as @blank;");
        ballotFault(2, "@votes x;");
        ballotFault(2, "@(x);");
        ballotFault(2, "@1;");
        ballotFault(2, "@not x;");
        ballotFault(2, "x @else y;");
        ballotFault(2, "x @then y;");
        ballotFault(2, "if @then x else y;");
        ballotFault(2, "if @x then x else y;");
        ballotFault(2, "if @if 1 then x else y;");
        ballotFault(2, "if 1 @x;");
        ballotFault(2, "if 1 then x@;");
        ballotFault(2, "if 1 then x@");
        ballotFault(2, "if 1 then x else@");
        ballotFault(2, "if 1 then x else y @else x;");
        ballotFault(2, "if 1 @else x;");
        ballotFault(2, "if 1 < 2 @< 3 then");
        ballotFault(2, "if 1 = 2 + 3 @> 4 then");
        ballotFault(2, "if not 1 = 2 @= 3 then");
        ballotFault(2, "if 1 = @not 2 then");
        ballotFault(2, "if 1 + @not 2 then");
        ballotFault(2, "if @- 1 then");
        ballotFault(2, "if 1 + @+ 1 then");
        ballotFault(2, "if 1 and @or 1 then");
        ballotFault(2, "if 1 @1 then");
        ballotFault(2, "if (1 @then x");
        ballotFault(2, "if (1 @; ");
        ballotFault(2, "if 1@) then x");
        ballotFault(2, "if (@) then x");
        ballotFault(2, "if (1 < 2) @(3) then x");
        ballotFault(2, "if votes @in s then");
        ballotFault(2, "if votes @1 then");
        ballotFault(5, "if votes @a then");
        ballotFault(5, "if votes x in @a then");
        ballotFault(2, "if blanks @s then");
        ballotFault(5, "if is @x a then");
        ballotFault(5, "if is a @b then");
        ballotFault(2, "if is a @= then");
        ballotFault(2, "if is @5 then");
        ballotFault(3, "if is @b x then");
        ballotFault(3, "as @b;");
    }

    private static String times(int n, String s) {
        return s.repeat(n);
    }

    private static void nesting() {
        ballotStands(times(7, "if 1 then x else ") + "y");
        ballotFault(2, times(7, "if 1 then x else ") + "@if 1 then");
        ballotStands(times(7, "if 1 then ") + "y" + times(7, " else x"));
        ballotFault(2, times(7, "if 1 then ") + "@if 1 then");
        ballotStands("if " + times(6, "(") + "1" + times(6, ")") + " then x else y");
        ballotFault(2, "if " + times(6, "(") + "@(1");
        ballotStands("if " + times(6, "not ") + "1 then x else y");
        ballotFault(2, "if " + times(6, "not ") + "@not 1");
        ballotStands("if not (not (not (1))) then x else y");
        ballotFault(2, "if not (not (not (@(1");
        ballotFault(2, "if not (not (not (@not 1");
        String six = times(6, "(") + "1" + times(6, ")");
        ballotStands("if " + six + " and " + six + " or " + six + " = " + six + " then x else y");
        ballotStands("if " + times(6, "not ") + "1 and " + times(6, "not ") + "1 or " + six + " then x else y");
        ballotFault(2, "if 1 then if " + times(5, "(") + "@(");
        ballotFault(2, "if 1 then x else if " + times(5, "(") + "@(");
        ballotStands("if (1) then if ((((1)))) + 1 then x else y else if not (1) then x else y");
    }

    private static void units() {
        ballotStands("if 0" + times(77, "+1") + " then x else y");
        ballotFaultAlone("if 0" + times(78, "+1") + " then x else @y;");
        ballotFaultAlone("if 0" + times(78, "+1") + " then x else @zzz;");
        ballotFaultAlone("if 0" + times(79, "+1") + " then @x");
        ballotFaultAlone("if 0" + times(79, "+1") + " then if @1 then");
        ballotFaultAlone("if 0" + times(79, "+1") + "+@1 then");
        ballotFaultAlone("if 0" + times(79, "+1") + "+@votes z");
        ballotFaultAlone("if 0" + times(79, "+1") + "+@is b z");
        ballotFaultAlone("if 0" + times(79, "+1") + "+@(1");
        ballotFaultAlone("if 0" + times(79, "+1") + " and not @1");
        ballotFaultAlone("if 0" + times(78, "+1") + "+(@1");
        BallotRing x = new BallotRing();
        Check.roll(x, HEAD + "ballot a if (1) and ((blanks)) then most in s else as b;");
        CHECK.due("about(7): brackets and marks are units", x.about(7), 7);
        fault(2, HEAD + "ballot a if 0" + times(38, "+1") + " then x else y;ballot b if 0" + times(36, "+1")
            + " then x else if 1 then @y else x;");
    }

    private static void ballotFaultAlone(String marked) {
        fault(2, HEAD + "ballot b " + marked);
    }

    private static void rewordFault(int which, String marked) {
        BallotRing x = new BallotRing();
        Check.roll(x, HEAD + "ballot a y;voter c at s weight 1;ballot c x;");
        CHECK.due("reword(1) of " + marked, Check.reword(x, 1, marked.replace("@", "")), -1);
        CHECK.due("fault(0) of " + marked, x.fault(0), which);
        CHECK.due("fault(1) of " + marked, x.fault(1), marked.indexOf('@'));
        CHECK.due("about(7) of " + marked, x.about(7), 2);
        CHECK.due("about(6) of " + marked, x.about(6), 0);
        CHECK.due("says(1) of " + marked, x.says(1), 0);
    }

    private static void rewordings() {
        rewordFault(2, "@");
        rewordFault(2, "  @");
        rewordFault(2, "x@;");
        rewordFault(2, "x @y");
        rewordFault(1, "x @#");
        rewordFault(1, "@#");
        rewordFault(3, "as @b");
        rewordFault(3, "if is @b x then");
        rewordFault(5, "@z");
        rewordFault(5, "as @z");
        rewordFault(2, "if 1 then x else@");
        rewordFault(2, times(7, "if 1 then x else ") + "@if 1");
        rewordFault(2, "if 0" + times(77, "+1") + " then @y");
        BallotRing x = new BallotRing();
        Check.roll(x, HEAD + "ballot a y;voter c at s weight 1;ballot c x;");
        CHECK.due("reword to 80", Check.reword(x, 1, "if 0" + times(75, "+1") + " then y else x"), 80);
        CHECK.due("reword of the same to 80", Check.reword(x, 1, "if 0" + times(75, "+1") + " then x else y"), 80);
        CHECK.due("reword of another to more", Check.reword(x, 0, "if 1 then x else y"), -1);
        CHECK.due("its fault", x.fault(0), 2);
        CHECK.due("its place", x.fault(1), 3 + "1 then ".length());
        CHECK.due("reword of a voter told later", Check.reword(x, 0, "as c"), 80);
        CHECK.due("its fault is none", x.fault(0), 0);
        CHECK.due("its place is none", x.fault(1), -1);
    }
}
