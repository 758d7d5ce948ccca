/** The bounds of styles (PART 7, promises 24 and 25): tokens, faults, what may be open, numbers, what is set. */
public final class StyleBoundsTest {
    private static final String FINE = "0@-1";
    private static final String TWO_60 = "4096*4096*4096*4096*4096";

    public static void main(String[] args) {
        theFirstBytesOfTheTape();
        wordsHaveAtMostEightLetters();
        numbersHaveAtMostFourDigits();
        betweenTokensAreBytes32And10();
        bytesThatAreNoTokens();
        theEndOfEachBeginning();
        wordsForWhatTheyStandIn();
        theFirstTokenThatDoesNotGoOn();
        twelveMayBeOpen();
        whatIsClosedIsNotOpen();
        numbersAre64Bits();
        divisionRoundsDown();
        divisionByNoneIsNone();
        whatIsSetIs0To255();
        wordsWithoutADrawing();
        aLaterRuleCounts();
        asManyRulesAsTheTapeHolds();
        aFaultChangesNothing();
        shadesAre0AtFirst();
        bytesBehindTheFirstAreNotLookedAt();
        testsAreJoined();
        Check.end();
    }

    private static String faultOf(String text) {
        DrawingHouse house = Check.house("a-b;");
        Check.due("NONE just with a fault: " + text, Check.style(house, 0, text) == -1, house.fault(0) != 0);
        return house.fault(0) + "@" + house.fault(1);
    }

    private static void fault(String text, String want) {
        Check.due("fault of <" + text + ">", faultOf(text), want);
    }

    /** What the form of the only node becomes. */
    private static void set(String sum, int want) {
        DrawingHouse house = Check.house("node a;");
        Check.due("rules of " + sum, Check.style(house, 0, "node if 1=1:form=" + sum + ";"), 1);
        Check.due("form=" + sum, house.shade(0, 0, 0, 2), want);
    }

    private static void test(String test, boolean want) {
        DrawingHouse house = Check.house("node a;");
        Check.due("rules of " + test, Check.style(house, 0, "node if " + test + ":form=1;"), 1);
        Check.due("if " + test, house.shade(0, 0, 0, 2), want ? 1 : 0);
    }

    private static void theFirstBytesOfTheTape() {
        DrawingHouse house = Check.house("a-b;");
        Check.due("no bytes", house.style(0, 0), 0);
        Check.due("one more than none", house.style(0, 1), -2);
        String rule = "node if 1=1:color=7;";
        Check.feed(house, rule);
        Check.due("-1", house.style(0, -1), -2);
        Check.due("one more than there are", house.style(0, 21), -2);
        Check.due("least", house.style(0, Integer.MIN_VALUE), -2);
        Check.due("greatest", house.style(0, Integer.MAX_VALUE), -2);
        Check.due("place 4", house.style(4, 20), -2);
        Check.due("place -1", house.style(-1, 20), -2);
        Check.due("nothing was done", house.shade(0, 0, 0, 0), 0);
        Check.due("all of it", house.style(0, 20), 1);
        Check.due("color", house.shade(0, 0, 0, 0), 7);
        Check.due("the tape is empty then", house.style(0, 1), -2);
        Check.feed(house, "$");
        Check.due("a fault", house.style(0, 20), -1);
        Check.due("the tape is empty then, too", house.style(0, 1), -2);
        // Only the first bytes count; the others are gone as well.
        Check.feed(house, rule + rule + "$");
        Check.due("the first 20", house.style(0, 20), 1);
        Check.due("the others", house.style(0, 1), -2);
        Check.due("a graph without nodes", Check.style(house, 1, rule), 1);
    }

    private static void wordsHaveAtMostEightLetters() {
        // No word is longer than six letters, so one of seven or eight is none of those told: both are met at their beginning.
        for (int length = 1; length <= 12; length++) {
            fault("node if " + "q".repeat(length) + "=1:form=1;", "1@8");
            fault("node if 1=1:" + "q".repeat(length) + "=1;", "1@12");
            fault("q".repeat(length), "1@0");
            fault("node " + "q".repeat(length), "1@5");
        }
        fault("node if weightweight=1:form=1;", "1@8");
        fault("nodenodenode if 1=1:form=1;", "1@0");
        fault("node if 1=1 andandand 1=1:form=1;", "1@12");
        // Words end where no letter is.
        fault("node if deg1=1:form=1;", "1@11");
        fault("node if x=1:form=1;", FINE);
        fault("node if1=1:form=1;", FINE);
        fault("node if 1=1and 1=1or 1=1:form=1;", FINE);
        fault("node if not(1)=1:form=1;", FINE);
    }

    private static void numbersHaveAtMostFourDigits() {
        String[] runs = {"0", FINE, "9", FINE, "99", FINE, "999", FINE, "9999", FINE, "0000", FINE, "00000", "1@8", "10000", "1@8",
            "00001", "1@8", "99999999999999999999", "1@8"};
        for (int k = 0; k < runs.length; k += 2) {
            fault("node if " + runs[k] + "=1:form=1;", runs[k + 1]);
        }
        fault("node if 1=1:form=12345;", "1@17");
        test("0009=9", true);
        test("9999>9998", true);
        test("0=0000", true);
    }

    private static void betweenTokensAreBytes32And10() {
        fault(" node  if  1 = 1 : form = 1 , width = ( 2 ) ; ", FINE);
        fault("\nnode\nif\n1\n=\n1\n:\nform\n=\n1\n;\n", FINE);
        fault("node if 1 2=1:form=1;", "1@10");
        fault("node if 1=1:fo rm=1;", "1@12");
        for (int c : new int[] {0, 9, 11, 12, 13, 31, 127, 128, 160, 255}) {
            fault("node" + (char) c + "if 1=1:form=1;", "1@4");
            fault("node if 1=1:form=1;" + (char) c, "1@19");
        }
    }

    private static void bytesThatAreNoTokens() {
        for (int c = 0; c < 256; c++) {
            boolean blank = c == 32 || c == 10;
            boolean value = c >= '0' && c <= '9' || c == 'x' || c == 'y';
            // In the place of a value: behind a blank, ( or { it is the = that does not go on.
            String want = value ? FINE : blank || c == '(' || c == '{' ? "1@9" : "1@8";
            fault("node if " + (char) c + "=1:form=1;", want);
            // Behind a rule only the words node and edge go on.
            fault("node if 1=1:form=1;" + (char) c, blank ? FINE : "1@19");
        }
    }

    /** No beginning of a style goes on at its end, but those that are styles themselves. */
    private static void theEndOfEachBeginning() {
        String text = "node if not { deg < 12 } and ( size + 3 ) = 7 : color = 1 , width = 2 ; edge if one = 1 : form = 3 ; ";
        int second = text.indexOf("edge");
        for (int n = 0; n <= text.length(); n++) {
            int begin = n;
            for (; begin > 0 && Character.isLetter(text.charAt(begin - 1)); begin--) {
            }
            boolean cut = begin < n && n < text.length() && Character.isLetter(text.charAt(n));
            boolean whole = n == 0 || n == second || n == second - 1 || n >= text.length() - 1;
            fault(text.substring(0, n), whole ? FINE : cut ? "1@" + begin : "1@" + n);
        }
    }

    private static void wordsForWhatTheyStandIn() {
        String[] ofNodes = {"deg", "in", "out", "size", "group", "far", "core", "cut", "x", "y"};
        String[] ofEdges = {"weight", "turned", "bridge", "from", "to", "block", "long", "one"};
        String[] ofNeither = {"color", "width", "form", "node", "edge", "if", "and", "or", "not", "degree", "xy"};
        for (String word : ofNodes) {
            fault("node if " + word + "=1:form=" + word + ";", FINE);
            fault("edge if " + word + "=1:form=1;", "1@8");
            fault("edge if 1=1:form=" + word + ";", "1@17");
        }
        for (String word : ofEdges) {
            fault("edge if " + word + "=1:form=" + word + ";", FINE);
            fault("node if " + word + "=1:form=1;", "1@8");
            fault("node if 1=1:form=" + word + ";", "1@17");
        }
        for (String word : ofNeither) {
            fault("node if 1=" + word + ":form=1;", "1@10");
            fault("edge if 1=1:form=" + word + ";", "1@17");
            boolean set = word.equals("color") || word.equals("width") || word.equals("form");
            fault("node if 1=1:" + word + "=1;", set ? FINE : "1@12");
        }
        for (String word : new String[] {"deg", "x", "weight"}) {
            fault("node if 1=1:" + word + "=1;", "1@12");
        }
        fault("group if 1=1:form=1;", "1@0");
        fault("node of 1=1:form=1;", "1@5");
    }

    private static void theFirstTokenThatDoesNotGoOn() {
        String[] runs = {
            ";", "1@0", "1", "1@0", "node;", "1@4", "node if;", "1@7", "node if =1:form=1;", "1@8", "node if 1:form=1;", "1@9",
            "node if 1<:form=1;", "1@10", "node if 1<2<3:form=1;", "1@11", "node if (1<2):form=1;", "1@10", "node if {1}:form=1;", "1@10",
            "node if {1<2:form=1;", "1@12", "node if 1<2):form=1;", "1@11", "node if 1<2}:form=1;", "1@11", "node if ():form=1;", "1@9",
            "node if {}:form=1;", "1@9", "node if not:form=1;", "1@11", "node if 1<2 not 1<2:form=1;", "1@12", "node if 1<2 and:form=1;", "1@15",
            "node if and 1<2:form=1;", "1@8", "node if 1<2 or:form=1;", "1@14", "node if 1++1=2:form=1;", "1@10", "node if 1*/1=2:form=1;", "1@10",
            "node if 1+=2:form=1;", "1@10", "node if -1=2:form=1;", "1@8", "node if 1<2:form 1;", "1@17", "node if 1<2:form=;", "1@17",
            "node if 1<2:form=1", "1@18", "node if 1<2:form=1,", "1@19", "node if 1<2:form=1,;", "1@19", "node if 1<2:form=1:", "1@18",
            "node if 1<2:form=1<2;", "1@18", "node if 1<2:form=not 1;", "1@17", "node if 1<2:form={1};", "1@17", "node if 1<2;form=1;", "1@11",
            "node if 1<2 form=1;", "1@12", "node if 1<2:form=1;;", "1@19", "node if 1<2:form=1 width=2;", "1@19", "node if [1<2]:form=1;", "1@8",
        };
        for (int k = 0; k < runs.length; k += 2) {
            fault(runs[k], runs[k + 1]);
        }
    }

    private static String times(String text, int count) {
        return text.repeat(count);
    }

    private static void twelveMayBeOpen() {
        for (int open = 11; open <= 13; open++) {
            String want = open <= 12 ? FINE : null;
            fault("node if " + times("(", open) + "1" + times(")", open) + "=1:form=1;", want == null ? "2@20" : want);
            fault("node if 1=" + times("(", open) + "1" + times(")", open) + ":form=1;", want == null ? "2@22" : want);
            fault("node if " + times("{", open) + "1=1" + times("}", open) + ":form=1;", want == null ? "2@20" : want);
            fault("node if " + times("not ", open) + "1=1:form=1;", want == null ? "2@56" : want);
            fault("node if 1=1:form=" + times("(", open) + "1" + times(")", open) + ";", want == null ? "2@29" : want);
            fault("edge if 1=1:form=1+2*" + times("(", open) + "1" + times(")", open) + ";", want == null ? "2@33" : want);
        }
        // All three count together, each of them may be the 13th.
        String mixed = times("not {", 5) + "not ";
        fault("node if " + mixed + "(1)=1" + times("}", 5) + ":form=1;", FINE);
        fault("node if " + mixed + "((1))=1" + times("}", 5) + ":form=1;", "2@38");
        fault("node if " + mixed + "{{1=1}}" + times("}", 5) + ":form=1;", "2@38");
        fault("node if " + mixed + "{not 1=1}" + times("}", 5) + ":form=1;", "2@38");
        fault("node if " + mixed + "{(1)=1}" + times("}", 5) + ":form=1;", "2@38");
        // The 13th is met ahead of what does not go on behind it, and behind what does not go on ahead of it.
        fault("node if " + times("(", 13), "2@20");
        fault("node if " + times("(", 12), "1@20");
        fault("node if " + times("{", 12) + "}" + times("{", 12), "1@20");
        fault("node if " + times("(", 1999 - 8), "2@20");
    }

    private static void whatIsClosedIsNotOpen() {
        String twelve = times("(", 12) + "1" + times(")", 12);
        fault("node if " + twelve + "+" + twelve + "=" + twelve + "*" + twelve + ":form=" + twelve + ",width=" + twelve + ";", FINE);
        fault("node if " + times("not ", 12) + "1=1 or " + times("not ", 12) + "1=1 and " + times("{", 12) + "1=1" + times("}", 12)
                + ":form=1;", FINE);
        fault("node if not 1=1 and " + times("not ", 12) + "1=1:form=1;", FINE);
        fault("node if {1=1}and " + times("{", 12) + "1=1" + times("}", 12) + ":form=1;", FINE);
        fault("node if {1=1 and " + times("{", 12) + "1=1" + times("}", 13) + ":form=1;", "2@28");
    }

    /** 2 to the power of 63 is one more than the greatest number. */
    private static void numbersAre64Bits() {
        test(TWO_60 + "*8-1>0", true);
        test(TWO_60 + "*8<0", true);
        test(TWO_60 + "*8-1+1<0", true);
        test("0-" + TWO_60 + "*8<0", true);
        test("0-" + TWO_60 + "*8-1>0", true);
        test(TWO_60 + "*16=0", true);
        test(TWO_60 + "*16+7=7", true);
        test("9999*9999*9999*9999*9999>0", true);
        test("9999*9999*9999*9999*9999/9999=9999*9999*9999*9999", false);
        test("9999*9999*9999*9999/9999=9999*9999*9999", true);
        // The least number by -1 is itself again.
        test(TWO_60 + "*8/(0-1)<0", true);
        test(TWO_60 + "*8/(0-1)=" + TWO_60 + "*8", true);
    }

    private static void divisionRoundsDown() {
        String[] same = {
            "7/2=3", "(0-7)/2=0-4", "7/(0-2)=0-4", "(0-7)/(0-2)=3", "(0-8)/2=0-4", "8/(0-2)=0-4", "1/9999=0", "(0-1)/9999=0-1", "0/5=0",
            "100/7/2=7", "100/(7/2)=33", "7*3/2=10", "7/2*3=9",
        };
        for (String s : same) {
            test(s, true);
        }
    }

    private static void divisionByNoneIsNone() {
        String[] same = {"7/0=0", "0/0=0", "(0-7)/0=0", "7/(3-3)=0", "5+7/0=5", "7/0/0=0", "1/0*9=0", TWO_60 + "*8/0=0"};
        for (String s : same) {
            test(s, true);
        }
    }

    private static void whatIsSetIs0To255() {
        String[] sums = {"0", "1", "254", "255", "256", "257", "9999", "0-1", "0-255", "0-256", "256-1", TWO_60, TWO_60 + "*8", TWO_60 + "*8-1"};
        int[] want = {0, 1, 254, 255, 255, 255, 255, 0, 0, 0, 255, 255, 0, 255};
        for (int k = 0; k < sums.length; k++) {
            set(sums[k], want[k]);
        }
        // Color, width, form: each on its own.
        DrawingHouse house = Check.house("a-b;");
        Check.style(house, 0, "node if 1=1:color=300,width=0-3;edge if 1=1:width=255,form=256;");
        int[] shades = {255, 0, 0, 0, 255, 255};
        for (int k = 0; k < 6; k++) {
            Check.due("shade " + k, house.shade(0, k / 3, 0, k % 3), shades[k]);
        }
    }

    private static void wordsWithoutADrawing() {
        DrawingHouse house = Check.house("a-b;node c;");
        String style = "node if x=0 and y=0:color=1;node if far=0-1:width=9;edge if long=0:color=1;";
        Check.due("rules", Check.style(house, 0, style), 3);
        for (int i = 0; i < 3; i++) {
            Check.due("x and y are 0", house.shade(0, 0, i, 0), 1);
            Check.due("no way from node 0", house.shade(0, 0, i, 1), i == 2 ? 9 : 0);
        }
        Check.due("long is 0", house.shade(0, 1, 0, 0), 1);
        house.draw(0, 7, 0);
        house.put(0, 0, -1, 1000000, -1000000);
        house.put(0, 1, -1, -1000000, 1000000);
        style = "node if x=9999*100+100 and y<0:color=2;edge if long=4000*1000:color=3;";
        Check.due("rules", Check.style(house, 0, style), 2);
        Check.due("the farthest point", house.shade(0, 0, 0, 0), 2);
        Check.due("the longest edge", house.shade(0, 1, 0, 0), 3);
        // The points as they are when the style is worked out.
        house.put(0, 0, -1, 0, 0);
        Check.due("it stays set", house.shade(0, 0, 0, 0), 2);
    }

    private static void aLaterRuleCounts() {
        DrawingHouse house = Check.house("a-b-c;");
        Check.style(house, 0, "node if deg>0:color=1;edge if 1=1:color=5;node if deg=2:color=2,color=3;node if deg=3:color=4;");
        int[] want = {1, 3, 1};
        for (int i = 0; i < 3; i++) {
            Check.due("color of node " + i, house.shade(0, 0, i, 0), want[i]);
        }
        Check.due("color of an edge", house.shade(0, 1, 0, 0), 5);
        Check.style(house, 0, "node if 1=1:color=9;node if 1=1:color=0-1;");
        Check.due("the later one's bound", house.shade(0, 0, 0, 0), 0);
    }

    private static void asManyRulesAsTheTapeHolds() {
        DrawingHouse house = Check.house("node a;");
        Check.due("111 rules of 18 bytes", Check.style(house, 0, times("node if1=1:form=7;", 111)), 111);
        Check.due("form", house.shade(0, 0, 0, 2), 7);
        Check.due("a rule of 2,000 bytes", Check.style(house, 0, "node if 1=1:form=1" + times("+1", 990) + ";"), 1);
        Check.due("form", house.shade(0, 0, 0, 2), 255);
        Check.due("a rule with 200 sums", Check.style(house, 0, "node if 1=1:form=1" + times("+1", 199) + ";"), 1);
        Check.due("form", house.shade(0, 0, 0, 2), 200);
        Check.due("many set", Check.style(house, 0, "node if 1=1:form=1" + times(",form=2", 280) + ",form=3;"), 1);
        Check.due("form", house.shade(0, 0, 0, 2), 3);
        Check.due("many tests", Check.style(house, 0, "node if 1=2" + times(" or 1=2", 270) + " or 1=1:form=4;"), 1);
        Check.due("form", house.shade(0, 0, 0, 2), 4);
        Check.due("1,999 blanks and a fault", Check.style(house, 0, times(" ", 1999) + ";"), -1);
        Check.due("its place", house.fault(1), 1999);
        Check.due("2,000 blanks", Check.style(house, 0, times("\n", 2000)), 0);
    }

    private static void aFaultChangesNothing() {
        DrawingHouse house = Check.house("a-b;");
        Check.style(house, 0, "node if 1=1:color=7;edge if 1=1:form=8;");
        house.draw(0, 7, 0);
        Check.due("a fault at the very end", Check.style(house, 0, "node if 1=1:color=1;edge if 1=1:form=1;x"), -1);
        Check.due("the 13th at the end", Check.style(house, 0, "node if 1=1:color=1;edge if 1=1:form=" + times("(", 13)), -1);
        Check.due("fault", house.fault(0), 2);
        Check.due("color", house.shade(0, 0, 0, 0), 7);
        Check.due("form", house.shade(0, 1, 0, 2), 8);
        Check.due("the drawing", house.told(0, 0, 0), 7);
    }

    private static void shadesAre0AtFirst() {
        DrawingHouse house = Check.house("a-b;");
        for (int k = 0; k < 6; k++) {
            Check.due("shade " + k, house.shade(0, k / 3, 0, k % 3), 0);
        }
        Check.style(house, 0, "node if 1=2:color=7;");
        Check.due("where no test holds", house.shade(0, 0, 0, 0), 0);
        Check.style(house, 0, "node if 1=1:color=7;edge if 1=1:color=7;");
        house.change(0, 4, 0, 0);
        Check.due("a refused change leaves them", house.shade(0, 0, 0, 0), 7);
        house.draw(0, 7, 0);
        Check.due("a drawing leaves them", house.shade(0, 1, 0, 0), 7);
        house.change(0, 4, 0, 1);
        Check.due("a change sets all to 0", house.shade(0, 0, 0, 0) + house.shade(0, 1, 0, 0), 0);
    }

    /** The first n bytes alone: a token that would go on behind them ends there. */
    private static void bytesBehindTheFirstAreNotLookedAt() {
        cut("node if 1=1:form=1;edge", "s", "1@23");
        cut("node if 1=1:form=1;node", "edgeedge", "1@23");
        cut("node if 1=1", "2345:form=1;", "1@11");
        cut("node if 1=1:form=1;", "$", FINE);
        cut("node if 1=1:form=1", ";", "1@18");
        cut("node if not", "e 1=1:form=1;", "1@11");
        cut("", "node", FINE);
    }

    private static void cut(String text, String rest, String want) {
        DrawingHouse house = Check.house("a-b;");
        Check.feed(house, text + rest);
        house.style(0, text.length());
        Check.due("<" + text + "> ahead of <" + rest + ">", house.fault(0) + "@" + house.fault(1), want);
    }

    /** All tests that hold, and all that do not, go together by and, or and not. */
    private static void testsAreJoined() {
        String[] right = {"1<2", "2>1", "1=1", "not 1=2", "{2>1}", "not not 1<2"};
        String[] wrong = {"2<1", "1>2", "1=2", "not 1=1", "{1>2}", "1<1", "1>1"};
        for (String a : right) {
            test(a, true);
            for (String b : right) {
                test(a + " and " + b, true);
                test("not {" + a + " and " + b + "}", false);
            }
            for (String b : wrong) {
                test(a + " and " + b, false);
                test(b + " and " + a, false);
                test(a + " or " + b, true);
                test(b + " or " + a, true);
                test(b + " and " + b + " or " + a, true);
                test(a + " or " + b + " and " + b, true);
            }
        }
        for (String a : wrong) {
            test(a, false);
            for (String b : wrong) {
                test(a + " or " + b, false);
            }
        }
    }
}
