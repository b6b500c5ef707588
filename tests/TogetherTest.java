import java.util.ArrayList;
import java.util.List;

/**
 * Promises that tell of each other, held against each other in towns made by a fixed counter: what one call answers is
 * done again by others, without any model beside the class. The remarks quote what is tried.
 */
public final class TogetherTest {
    private static final Check CHECK = new Check();
    private static final String LETTERS = "abcdefgh";

    public static void main(String[] args) {
        for (int seed = 0; seed < 400; seed++) {
            Town town = new Town(seed);
            if (town.stands()) {
                behindAnotherRoll(town, new Town(seed + 1000));
                wordByWord(town);
                backFromABox(town, new Town(seed + 2000));
                countingsAreJudged(town);
                chosenByWeights(town);
                opened(town);
                looked(town);
                parted(town);
                rested(town);
                soonest(town);
                swayed(town);
                oneMore(town);
                leftAndSure(town);
            }
        }
        CHECK.close("TogetherTest");
    }

    /** A small town's text in parts: its head, and a wording for each voter. */
    private static final class Town {
        final AgainstModel.Dice dice;
        final AgainstModel.Writer writer;
        final List<String> wordings = new ArrayList<>();
        final int[] weights;
        final int names;
        final int streets;
        final int voters;
        String head = "";

        Town(int seed) {
            dice = new AgainstModel.Dice(seed + 77);
            writer = new AgainstModel.Writer(dice, 8, seed % 3 == 0);
            names = 1 + dice.below(3);
            streets = 1 + dice.below(2);
            voters = 1 + dice.below(4);
            weights = new int[voters];
            for (int i = 0; i < names; i++) {
                writer.names.add("xyz".substring(i, i + 1));
                head += "name " + "xyz".charAt(i) + ";";
            }
            for (int i = 0; i < streets; i++) {
                writer.streets.add("st".substring(i, i + 1));
                head += "street " + "st".charAt(i) + ";";
            }
            for (int i = 0; i < voters; i++) {
                weights[i] = 1 + dice.below(dice.one(2) ? 9 : 2);
                writer.voters.add(LETTERS.substring(i, i + 1));
                head += "voter " + LETTERS.charAt(i) + " at " + dice.of(writer.streets) + " weight " + weights[i] + ";";
            }
            for (int i = 0; i < voters; i++) {
                wordings.add(voters == 1 && dice.one(2) ? "x" : writer.wording(0, i, true));
            }
        }

        String text() {
            StringBuilder text = new StringBuilder(head);
            for (int i = 0; i < voters; i++) {
                text.append("ballot ").append(LETTERS.charAt(i)).append(' ').append(wordings.get(i)).append(';');
            }
            return text.toString();
        }

        boolean stands() {
            return text().length() <= 1600 && Check.roll(new BallotRing(), text()) == voters;
        }

        /** A new object with this town. */
        BallotRing ring() {
            BallotRing x = new BallotRing();
            Check.roll(x, text());
            return x;
        }

        String wordOf(int mark) {
            return mark == 0 ? "blank" : "xyz".substring(mark - 1, mark);
        }
    }

    private static void due(Town town, String call, long got, long want) {
        CHECK.due(got == want ? call : call + " in " + town.text(), got, want);
    }

    private static void due(Town town, String call, String got, String want) {
        CHECK.due(got.equals(want) ? call : call + " in " + town.text(), got, want);
    }

    private static void behindAnotherRoll(Town town, Town other) {
        // Promise 4: "The TAPE is the ROLL (MARKS are 0, HANDS are none, BOXES are empty then)": nothing of an earlier one.
        BallotRing x = new BallotRing();
        if (Check.roll(x, other.text()) >= 0) {
            x.mark(0, 1);
            x.hand(0, 0);
            x.image(0);
            Check.seen(x);
        }
        Check.roll(x, town.text());
        due(town, "a roll behind another one", Check.seen(x), Check.seen(town.ring()));
        due(town, "back(0) behind another roll", x.back(0), -1);
    }

    private static void wordByWord(Town town) {
        // Promise 5: "The TAPE is the e of a VOTER's ballot": as if it had been told so in the ROLL.
        BallotRing x = new BallotRing();
        StringBuilder blanks = new StringBuilder(town.head);
        for (int v = 0; v < town.voters; v++) {
            blanks.append("ballot ").append(LETTERS.charAt(v)).append(" blank;");
        }
        Check.roll(x, blanks.toString());
        for (int v = town.voters - 1; v >= 0; v--) {
            // What was asked before is not kept.
            x.countings();
            x.sway(0, 0);
            x.soonest(0);
            Check.reword(x, v, town.wordings.get(v));
        }
        due(town, "ballots reworded one by one", Check.seen(x), Check.seen(town.ring()));
    }

    private static void backFromABox(Town town, Town other) {
        // Promises 29, 30: "Ballots, MARKS, HANDS are kept in a BOX"; "All is as it was kept".
        BallotRing x = town.ring();
        x.mark(town.voters - 1, 1);
        x.hand(0, 1);
        x.hand(town.voters - 1, town.names);
        x.untell(0);
        x.image(1);
        for (int v = 0; v < town.voters; v++) {
            Check.reword(x, v, v < other.voters ? other.wordings.get(v) : "x");
            x.open(v);
            x.hand(v, 0);
        }
        x.untell(1);
        x.countings();
        x.sway(0, 0);
        x.soonest(0);
        due(town, "back(1)", x.back(1), 2);
        BallotRing y = town.ring();
        y.mark(town.voters - 1, 1);
        y.hand(0, 1);
        y.hand(town.voters - 1, town.names);
        y.untell(0);
        due(town, "all as it was kept", Check.seen(x), Check.seen(y));
    }

    /** Gives the voters the marks of a row, whose first voter's counts most. */
    private static void have(BallotRing x, Town town, int row) {
        int rest = row;
        for (int v = town.voters - 1; v >= 0; v--) {
            x.mark(v, rest % (town.names + 1));
            rest /= town.names + 1;
        }
    }

    private static int rows(Town town) {
        int rows = 1;
        for (int v = 0; v < town.voters; v++) {
            rows *= town.names + 1;
        }
        return rows;
    }

    private static void countingsAreJudged(Town town) {
        // Terms 2: "A COUNTING: a ROW by which each ballot SAYS just its VOTER's MARK"; promise 18: "NONE (they are a
        // COUNTING)": all rows tried in their order, on as many objects as 512 calls ask for.
        BallotRing asked = town.ring();
        int found = 0;
        BallotRing x = null;
        for (int row = 0; row < rows(town); row++) {
            if (row % 16 == 0) {
                x = town.ring();
            }
            have(x, town, row);
            int judge = x.judge();
            int first = -1;
            for (int v = town.voters - 1; v >= 0; v--) {
                first = x.says(v) != x.has(v) ? v : first;
            }
            due(town, "judge() by row " + row, judge, first);
            if (judge == -1) {
                if (found % 64 == 63) {
                    asked = town.ring();
                }
                for (int v = 0; v < town.voters; v++) {
                    due(town, "counting(" + found + "," + v + ")", asked.counting(found, v), x.has(v));
                }
                found++;
            }
        }
        due(town, "countings()", asked.countings(), found);
        due(town, "whether anything is told", asked.telling() == -1 ? 1 : 0, found > 0 ? 1 : 0);
    }

    private static void chosenByWeights(Town town) {
        // Terms 2: "CHOSEN in it: the name whose weights of all VOTERS together are greater than each other one's (and
        // above 0)"; promise 10: "2 in all COUNTINGS, 1 in some, 0 in none".
        BallotRing x = town.ring();
        int countings = Math.min(x.countings(), 50);
        int[] won = new int[town.names];
        for (int i = 0; i < countings; i++) {
            int[] sums = new int[4];
            for (int v = 0; v < town.voters; v++) {
                sums[x.counting(i, v)] += town.weights[v];
            }
            int chosen = -1;
            for (int m = 1; m <= town.names; m++) {
                boolean greatest = sums[m] > 0;
                for (int o = 1; o <= town.names; o++) {
                    greatest &= o == m || sums[o] < sums[m];
                }
                chosen = greatest ? m - 1 : chosen;
            }
            due(town, "chosen(" + i + ")", x.chosen(i), chosen);
            if (chosen >= 0) {
                won[chosen]++;
            }
        }
        for (int name = 0; name < town.names && x.countings() <= 50; name++) {
            int want = countings == 0 ? -1 : won[name] == countings ? 2 : won[name] > 0 ? 1 : 0;
            due(town, "wins(" + name + ")", x.wins(name), want);
        }
    }

    private static void opened(Town town) {
        // Promise 16: "A VOTER OPENS: the MARK then": what was said before; the others' MARKS stay.
        BallotRing x = town.ring();
        have(x, town, town.dice.below(rows(town)));
        for (int turn = 0; turn < 12; turn++) {
            int v = town.dice.below(town.voters);
            int[] before = new int[town.voters];
            for (int o = 0; o < town.voters; o++) {
                before[o] = x.has(o);
            }
            before[v] = x.says(v);
            due(town, "open(" + v + ")", x.open(v), before[v]);
            for (int o = 0; o < town.voters; o++) {
                due(town, "has(" + o + ") behind open(" + v + ")", x.has(o), before[o]);
            }
        }
    }

    private static void looked(Town town) {
        // Terms 2: "LOOKS": by what a ballot does not look at, what it SAYS does not change.
        BallotRing x = town.ring();
        for (int v = 0; v < town.voters; v++) {
            have(x, town, town.dice.below(rows(town)));
            int says = x.says(v);
            for (int o = 0; o < town.voters; o++) {
                for (int m = 0; m <= town.names && (x.looks(v) >> o & 1) == 0; m++) {
                    x.mark(o, m);
                    due(town, "says(" + v + ") whatever mark " + o + " has", x.says(v), says);
                }
            }
            due(town, "looks(" + v + ") at the own one", x.looks(v) >> v & 1, 0);
            due(town, "looks(" + v + ") at one who is not", x.looks(v) >> town.voters, 0);
        }
    }

    private static void parted(Town town) {
        // Terms 2: "PART of a VOTER: all who can be come to from that one by looks, and from whom that one can be".
        BallotRing x = town.ring();
        boolean[][] way = new boolean[town.voters][town.voters];
        for (int v = 0; v < town.voters; v++) {
            for (int o = 0; o < town.voters; o++) {
                way[v][o] = v == o || (x.looks(v) >> o & 1) == 1;
            }
        }
        for (int by = 0; by < town.voters; by++) {
            for (int v = 0; v < town.voters; v++) {
                for (int o = 0; o < town.voters; o++) {
                    way[v][o] |= way[v][by] && way[by][o];
                }
            }
        }
        for (int v = 0; v < town.voters; v++) {
            int part = 0;
            for (int o = 0; o < town.voters; o++) {
                part |= way[v][o] && way[o][v] ? 1 << o : 0;
            }
            due(town, "part(" + v + ")", x.part(v), part);
        }
    }

    /** Rounds of open, one by one. */
    private static int restByOpening(Town town, int[] order) {
        BallotRing x = town.ring();
        for (int rounds = 0; rounds <= 40; rounds++) {
            boolean changes = false;
            for (int v : order) {
                int before = x.has(v);
                changes |= x.open(v) != before;
            }
            if (!changes) {
                return rounds;
            }
        }
        return -1;
    }

    private static int number(int[] order) {
        int number = 0;
        for (int v : order) {
            number = number * 10 + v + 1;
        }
        return number;
    }

    private static int[] someOrder(Town town) {
        List<Integer> all = new ArrayList<>();
        for (int v = 0; v < town.voters; v++) {
            all.add(town.dice.below(all.size() + 1), v);
        }
        return all.stream().mapToInt(i -> i).toArray();
    }

    private static void rested(Town town) {
        // Terms 3: "ROUNDS begin with all MARKS 0: in a ROUND VOTER by VOTER, in an order, each takes what the ballot SAYS
        // of the MARKS as they are then. REST: behind how many ROUNDS nothing changes any more".
        BallotRing x = town.ring();
        have(x, town, rows(town) - 1);
        for (int turn = 0; turn < 3; turn++) {
            int[] order = someOrder(town);
            due(town, "rest(" + number(order) + ")", x.rest(number(order)), restByOpening(town, order));
        }
    }

    private static void soonest(Town town) {
        // Terms 3: "SOONEST: of all orders that one of least REST; of like ones the first".
        BallotRing x = town.ring();
        int end = 1;
        for (int v = 0; v < town.voters; v++) {
            end *= 10;
        }
        int best = -1;
        int first = -1;
        // All numbers whose digits can be told, least first; so few voters have few.
        for (int order = 0; order < end; order++) {
            if (allOnce(order, town.voters)) {
                int rest = x.rest(order);
                if (rest >= 0 && (best < 0 || rest < best)) {
                    best = rest;
                    first = order;
                }
            }
        }
        due(town, "soonest(0)", x.soonest(0), best);
        due(town, "soonest(1)", x.soonest(1), first);
    }

    private static boolean allOnce(int order, int voters) {
        int seen = 0;
        for (int rest = order; rest > 0; rest /= 10) {
            seen |= 1 << rest % 10;
        }
        return seen == (1 << voters + 1) - 2;
    }

    private static void swayed(Town town) {
        // Terms 3: "SWAY of a name: the fewest VOTERS whose ballots, changed to told MARKS, make it CHOSEN in all COUNTINGS
        // that there are then": reworded so, it wins in all.
        for (int name = 0; name < town.names; name++) {
            BallotRing x = town.ring();
            int many = x.sway(name, 0);
            int set = x.sway(name, 1);
            int marks = x.sway(name, 2);
            due(town, "none is needed for " + name, many == 0 ? 1 : 0, x.wins(name) == 2 ? 1 : 0);
            due(town, "how many are in the set for " + name, many < 0 ? -1 : Integer.bitCount(set), many);
            for (int v = town.voters - 1; v >= 0 && many > 0; v--) {
                if ((set >> v & 1) == 1) {
                    Check.reword(x, v, town.wordOf(marks % 10));
                    marks /= 10;
                }
            }
            due(town, "wins(" + name + ") when it is done", many < 0 || x.wins(name) == 2 ? 1 : 0, 1);
            if (many != 0) {
                swayedByOne(town, name, many == 1 ? set : 0, many == 1 ? town.ring().sway(name, 2) : 0);
            }
        }
    }

    private static void swayedByOne(Town town, int name, int set, int mark) {
        // "of like ones the least set (as bits), then the least MARKS": the first one of all that a reword brings about.
        for (int v = 0; v < town.voters; v++) {
            BallotRing x = town.ring();
            for (int m = 0; m <= town.names; m++) {
                Check.reword(x, v, town.wordOf(m));
                if (x.wins(name) == 2) {
                    due(town, "the first set of one for " + name, set, 1 << v);
                    due(town, "its mark", mark, m);
                    return;
                }
            }
        }
        due(town, "no set of one for " + name, set, 0);
    }

    private static void oneMore(Town town) {
        // Terms 3: "MORE: how many COUNTINGS there would be with one VOTER more (weight 1, the last one) in a STREET, who
        // has a told MARK".
        BallotRing x = town.ring();
        for (int street = 0; street < town.streets; street++) {
            for (int mark = 0; mark <= town.names; mark++) {
                String more = "voter more at " + town.writer.streets.get(street) + " weight 1;ballot more "
                    + town.wordOf(mark) + ";";
                BallotRing y = new BallotRing();
                String text = town.head + more + town.text().substring(town.head.length());
                if (text.length() <= 1600 && x.about(7) < 80) {
                    due(town, "one voter more", Check.roll(y, text), town.voters + 1);
                    due(town, "more(" + street + "," + mark + ")", x.more(street, mark), y.countings());
                }
            }
        }
    }

    private static void leftAndSure(Town town) {
        // Terms 4: "As known at k those count that were TOLD at k or before, not UNTOLD at k or before. LEFT: COUNTINGS in
        // which all that count are so. SURE: a VOTER's MARK that is the same in all that are LEFT."
        BallotRing x = town.ring();
        int[][] hands = new int[4][];
        for (int h = 0; h < hands.length; h++) {
            int v = town.dice.below(town.voters);
            int m = x.countings() > 0 ? x.counting(town.dice.below(x.countings()), v) : 0;
            due(town, "hand", x.hand(v, m), h);
            hands[h] = new int[] {v, m, x.about(5), 1000};
            x.later(town.dice.below(3));
            int other = town.dice.below(h + 1);
            if (town.dice.one(2) && x.untell(other)) {
                hands[other][3] = x.about(5);
            }
        }
        int[][] rows = new int[Math.min(x.countings(), 40)][town.voters];
        for (int i = 0; i < rows.length; i++) {
            for (int v = 0; v < town.voters; v++) {
                rows[i][v] = x.counting(i, v);
            }
        }
        for (int k = -1; k <= 9 && x.countings() == rows.length; k++) {
            int asked = town.dice.below(town.voters);
            int left = 0;
            int only = -1;
            for (int[] row : rows) {
                boolean so = true;
                for (int[] hand : hands) {
                    so &= hand[2] > k || hand[3] <= k || row[hand[0]] == hand[1];
                }
                only = !so ? only : left == 0 || only == row[asked] ? row[asked] : -2;
                left += so ? 1 : 0;
            }
            due(town, "left(" + k + ")", x.left(k), left);
            due(town, "sure(" + asked + "," + k + ")", x.sure(asked, k), only);
        }
    }
}
