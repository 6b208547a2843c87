/** One group of calls for each promise: ordinary inputs, the document's edges, wrong inputs. */
public final class PromisesTest {
    private static final int NONE = -1, UNKNOWN = -2, OUTSIDE = -3, NOT = -4, FULL = -5;
    private static final int LOW = Integer.MIN_VALUE, HIGH = Integer.MAX_VALUE;
    private static final String SIX = "plain;smooth;shy;host;plain;shy";

    private static int checks = 0;
    private static int wrong = 0;

    private static void due(String what, int got, int want) {
        checks++;
        if (got != want) {
            wrong++;
            System.out.println(what + " answered " + got + ", due is " + want);
        }
    }

    private static void dueAll(String what, int want, int... got) {
        for (int i = 0; i < got.length; i++) {
            due(what + " [" + i + "]", got[i], want);
        }
    }

    private static void write(NearlyKnown x, String text) {
        for (int i = 0; i < text.length(); i++) {
            x.write(text.charAt(i));
        }
    }

    private static NearlyKnown told(String text) {
        NearlyKnown x = new NearlyKnown();
        tell(x, text);
        return x;
    }

    private static void tell(NearlyKnown x, String text) {
        write(x, text);
        if (x.season() < 0) {
            wrong++;
            System.out.println("the text was not taken: " + text);
        }
    }

    private static void faultOf(String ahead, String text, int want) {
        NearlyKnown x = ahead.isEmpty() ? new NearlyKnown() : told(ahead);
        int people = x.count(0);
        write(x, text);
        due("fault of '" + text + "'", x.fault(), want);
        due("letters of '" + text + "'", x.count(7), text.length());
        due("season of '" + text + "'", Math.min(x.season(), 0), want == NONE ? 0 : NOT);
        if (want != NONE) {
            due("people behind '" + text + "'", x.count(0), people);
            due("letters kept of '" + text + "'", x.count(7), text.length());
        }
    }

    private static void promise1() {
        NearlyKnown x = new NearlyKnown();
        for (int what = 0; what <= 7; what++) {
            due("1 count " + what, x.count(what), 0);
        }
        dueAll("1 nobody", UNKNOWN, x.person(0, 0), x.to(0, 1), x.clash(1), x.comes(0, 1));
        due("1 back", x.back(0), NOT);
        due("1 undo", x.undo(), NOT);
    }

    private static void promise2() {
        NearlyKnown x = new NearlyKnown();
        dueAll("2 outside", OUTSIDE, x.write(-1), x.write(256), x.write(LOW), x.write(HIGH));
        due("2 letter 0", x.write(0), 1);
        due("2 letter 255", x.write(255), 2);
        for (int i = 3; i <= 160; i++) {
            due("2 letter " + i, x.write('a'), i);
        }
        due("2 full", x.write('a'), FULL);
        due("2 outside ahead of full", x.write(256), OUTSIDE);
        due("2 length", x.count(7), 160);
    }

    private static void promise3() {
        NearlyKnown x = told("host");
        due("3 of nothing", x.erase(), 0);
        write(x, "plain;");
        due("3 letters", x.erase(), 6);
        due("3 empty", x.count(7), 0);
        due("3 people stay", x.count(0), 1);
        write(x, "shy");
        due("3 only what came behind", x.season(), 1);
        due("3 kind", x.person(1, 0), 2);
    }

    private static void promise4() {
        faultOf("", "", 0);
        faultOf("", "   ", 3);
        faultOf("", " season ", NONE);
        faultOf("", "Season", 0);
        faultOf("", "seasons", 0);
        faultOf("", "seaso", 0);
        faultOf("", "season season", 7);
        faultOf("", "season;", 7);
        faultOf("", "season ; ", 9);
        faultOf("", ";season", 0);
        faultOf("", "season;;season", 7);
        faultOf("", "plain\tplain", 5);
        faultOf("", "plain.", 5);
        faultOf("", "plain\u00e9", 5);
        faultOf("", "plain 3", 6);
        faultOf("", "7", 0);
        faultOf("", "as 0 1 1", 3);
        faultOf("", "as", 2);
        faultOf("", "as  ", 4);
        faultOf("plain;shy", "as 0 1 7", NONE);
        faultOf("plain;shy", "as 01 00 07", NONE);
        faultOf("plain;shy", "as1 0 7", NONE);
        faultOf("plain;shy", "as 0 1 1;room3", NONE);
        faultOf("plain;shy", "as 0 1 0", 7);
        faultOf("plain;shy", "as 0 1 8", 7);
        faultOf("plain;shy", "as 0 1 001", 7);
        faultOf("plain;shy", "as 000 1 1", 3);
        faultOf("plain;shy", "as 0 2 1", 5);
        faultOf("plain;shy", "as 0 0 1", 5);
        faultOf("plain;shy", "as 2 0 1", 3);
        faultOf("plain;shy", "as a 0 1", 3);
        faultOf("plain;shy", "as 0", 4);
        faultOf("plain;shy", "as 0;room 1", 4);
        faultOf("plain;shy", "as ;room 1", 3);
        faultOf("plain;shy", "room ;room 1", 5);
        faultOf("plain;shy", "as 0 1", 6);
        faultOf("plain;shy", "as 0 1;", 6);
        faultOf("plain;shy", "as 0 1 1 1", 9);
        faultOf("plain;shy", "as 0 1 1 room 1", 9);
        faultOf("plain;shy", "as 2 0 1;host", 3);
        faultOf("plain;shy", "host;as 2 0 1", NONE);
        faultOf("plain;shy", "season;as 0 1 1", 10);
        faultOf("plain;shy", "season;room 1", 12);
        faultOf("plain;shy", "room 3", NONE);
        faultOf("plain;shy", "room 0", NONE);
        faultOf("plain;shy", "room 4", 5);
        faultOf("plain;shy", "room 003", 5);
        faultOf("plain;shy", "room -1", 5);
        faultOf("plain;shy", "room", 4);
        faultOf(SIX, "room 63", NONE);
        faultOf(SIX, "room 64", 5);
        faultOf(SIX, "room 99", 5);
        faultOf(SIX, "room 100", 5);
        faultOf(SIX, "room 4294967296", 5);
        faultOf(SIX, "host", 0);
        faultOf(SIX, "room 1;host x", 7);
        faultOf(SIX, "season;host", NONE);
        faultOf("", SIX + ";shy", SIX.length() + 1);
        faultOf("", SIX + "; shy", SIX.length() + 2);
        String fourteen = "season;".repeat(13) + "season";
        faultOf("", fourteen, NONE);
        faultOf("", fourteen + ";season", fourteen.length());
        faultOf("", fourteen + ";", fourteen.length());
        faultOf("", fourteen + " x", fourteen.length() + 1);
        // The signs next to the small letters and the digits are tokens by themselves.
        for (String sign : new String[] {"`", "{", "/", ":", "\0", "\u00ff"}) {
            faultOf("plain", "shy" + sign, 3);
            faultOf("plain", "room 1" + sign, 6);
        }
        for (String letter : new String[] {"a", "z", "y"}) {
            faultOf("plain", "shy" + letter, 0);
            faultOf("plain", "room " + letter, 5);
            faultOf("plain", "room 1" + letter, 6);
        }
        faultOf("", "zhy", 0);
        faultOf("", "qs", 0);
        NearlyKnown x = told("plain");
        write(x, "shy;host;x");
        dueAll("4 what was read is not told", 9, x.fault(), x.fault());
        due("4 nor done", x.season(), NOT);
        x.erase();
        write(x, "as 0 1 1");
        dueAll("4 asked twice", 5, x.fault(), x.fault());
        due("4 changes nothing", x.count(0), 1);
    }

    private static void promise5() {
        NearlyKnown x = new NearlyKnown();
        due("5 empty", x.season(), NOT);
        write(x, "plain;host;as 0 1 3;as 0 1 4;room 3;room 2");
        due("5 clauses", x.season(), 6);
        due("5 text", x.count(7), 0);
        due("5 the later role", x.to(0, 1), 4);
        due("5 the later room", x.count(2), 2);
        x.comes(0, 1);
        x.introduce(1, 0, 6);
        x.contradict(0, 1);
        x.evening();
        x.keep(0);
        x.keep(1);
        x.seen(1, 0, 1);
        write(x, "shy");
        due("5 one more", x.season(), 1);
        due("5 people", x.count(0), 3);
        due("5 evening", x.count(1), 0);
        due("5 room as told", x.count(2), 2);
        due("5 role as told", x.to(0, 1), 4);
        due("5 not as done", x.to(1, 0), NONE);
        due("5 seen", x.count(5), 0);
        due("5 undo", x.undo(), NOT);
        dueAll("5 kept", NOT, x.back(0), x.back(1));
        dueAll("5 the new one is nobody's", NONE, x.to(2, 0), x.to(2, 1), x.to(0, 2), x.to(1, 2));
        tell(x, "season;plain;smooth;shy");
        due("5 season: people", x.count(0), 3);
        due("5 season: room", x.count(2), 0);
        due("5 season: roles", x.count(4), 0);
        tell(x, "season");
        due("5 season: nobody", x.count(0), 0);
        x = told("plain;plain;as 0 1 2;room 3");
        x.comes(0, 0);
        write(x, "as 0 1");
        due("5 fault", x.season(), NOT);
        due("5 fault: room", x.count(2), 2);
        due("5 fault: undo", x.count(6), 1);
    }

    private static void promise6() {
        NearlyKnown x = told(SIX + ";as 0 1 1;as 0 2 2;as 1 0 3;as 1 2 4;as 3 0 1;as 3 1 7;room 15");
        int[] kinds = {0, 1, 2, 3, 0, 2};
        int[] in = {1, 1, 1, 1, 0, 0};
        int[] must = {6, 24, 0, 130, 0, 0};
        int[] two = {1, 0, 0, 0, 0, 0};
        int[] known = {2, 2, 0, 2, 0, 0};
        for (int p = 0; p < 6; p++) {
            due("6 kind", x.person(p, 0), kinds[p]);
            due("6 in", x.person(p, 1), in[p]);
            due("6 must", x.person(p, 2), must[p]);
            due("6 two", x.person(p, 3), two[p]);
            due("6 known", x.person(p, 4), known[p]);
        }
        x.comes(0, 0);
        due("6 out: must", x.person(0, 2), 0);
        due("6 out: two", x.person(0, 3), 0);
        due("6 out: known", x.person(0, 4), 2);
        dueAll("6 unknown", UNKNOWN, x.person(-1, 0), x.person(6, 0), x.person(6, 9), x.person(LOW, 0), x.person(HIGH, 0));
        dueAll("6 outside", OUTSIDE, x.person(0, -1), x.person(0, 5), x.person(0, LOW), x.person(0, HIGH));
    }

    private static void promise7() {
        NearlyKnown x = told("plain;plain;as 0 1 7");
        due("7 role", x.to(0, 1), 7);
        due("7 none", x.to(1, 0), NONE);
        dueAll("7 unknown", UNKNOWN, x.to(0, 0), x.to(0, 2), x.to(2, 0), x.to(-1, 0), x.to(0, LOW), x.to(HIGH, 0));
    }

    private static void promise8() {
        NearlyKnown x = told("plain;smooth;shy;host");
        int[][] bears = {
            {1, 1, NOT, NOT, NOT}, {2, 2, 2, NOT, NOT}, {1, 1, NOT, 1, NOT}, {7, NOT, NOT, NOT, 7}};
        for (int p = 0; p < 4; p++) {
            for (int kind = 0; kind < 5; kind++) {
                due("8 as(" + p + ", " + kind + ")", x.as(p, kind), bears[p][kind]);
            }
        }
        dueAll("8 unknown", UNKNOWN, x.as(4, 0), x.as(-1, 7), x.as(HIGH, 0));
        dueAll("8 outside", OUTSIDE, x.as(0, 5), x.as(0, -1), x.as(0, LOW), x.as(0, HIGH));
    }

    private static void promise9() {
        NearlyKnown x = told("plain;shy;room 2");
        due("9 comes", x.comes(0, 1), 3);
        due("9 comes again", x.comes(0, 1), NOT);
        due("9 goes", x.comes(1, 0), 1);
        due("9 goes again", x.comes(1, 0), NOT);
        dueAll("9 unknown", UNKNOWN, x.comes(2, 1), x.comes(-1, 2), x.comes(LOW, 0));
        dueAll("9 outside", OUTSIDE, x.comes(0, 2), x.comes(0, -1), x.comes(1, HIGH));
        due("9 what was refused is not done", x.count(6), 2);
    }

    private static void promise10() {
        NearlyKnown x = told("plain;shy");
        due("10 first", x.introduce(0, 1, 1), NONE);
        due("10 in place", x.introduce(0, 1, 7), 1);
        due("10 the same", x.introduce(0, 1, 7), 7);
        due("10 role", x.to(0, 1), 7);
        due("10 not the other way", x.to(1, 0), NONE);
        dueAll("10 unknown", UNKNOWN, x.introduce(0, 0, 1), x.introduce(0, 2, 1), x.introduce(-1, 0, 9));
        dueAll("10 outside", OUTSIDE, x.introduce(0, 1, 0), x.introduce(0, 1, 8), x.introduce(0, 1, LOW));
        due("10 each is done", x.count(6), 3);
    }

    private static void promise11() {
        NearlyKnown x = told("plain;shy;as 0 1 5");
        due("11 was", x.contradict(0, 1), 5);
        due("11 none now", x.to(0, 1), NONE);
        due("11 again", x.contradict(0, 1), NOT);
        due("11 the other way", x.contradict(1, 0), NOT);
        dueAll("11 unknown", UNKNOWN, x.contradict(0, 0), x.contradict(2, 0), x.contradict(0, -1), x.contradict(HIGH, LOW));
        due("11 done", x.count(6), 1);
    }

    private static void promise12() {
        // The shy one who must be two leaves, but the others have learnt in front of him.
        NearlyKnown x = told("plain;shy;host;smooth;as 0 2 4;as 1 0 1;as 1 2 2;as 2 0 6;as 3 0 1;as 3 1 2;room 15");
        due("12 leaves", x.evening(), 2);
        due("12 room", x.count(2), 13);
        due("12 evening", x.count(1), 1);
        dueAll("12 the plain one's role", 4, x.to(0, 1), x.to(0, 2), x.to(0, 3));
        dueAll("12 the host's role", 6, x.to(2, 0), x.to(2, 1), x.to(2, 3));
        dueAll("12 who must be two, or is two smoothly, spreads nothing", NONE, x.to(1, 3), x.to(3, 2));
        due("12 nobody leaves", x.evening(), 0);
        // The smooth one must be just one now that the shy one is gone, and was so ahead of this evening.
        due("12 the smooth one's role", x.to(3, 2), 1);
        x = told("plain;plain;plain;as 0 1 3;room 5");
        due("12 who told is not there", x.evening(), 0);
        due("12 so nothing is learnt", x.to(0, 2), NONE);
        x = told("plain;plain;plain;plain;as 0 1 7;as 1 0 1;room 7");
        x.evening();
        dueAll("12 who is there learns it", 7, x.to(0, 1), x.to(0, 2));
        dueAll("12 who is not there does not", NONE, x.to(0, 3), x.to(1, 3), x.to(3, 0), x.to(2, 0));
        // Beyond the calls for which an object is promised, but nowhere nearer can it be reached.
        x = told("plain");
        for (int i = 0; i < 998; i++) {
            x.evening();
        }
        due("12 evening 998", x.count(1), 998);
        due("12 the last one", x.evening(), 0);
        due("12 full", x.evening(), FULL);
        due("12 evening 999", x.count(1), 999);
        due("12 what was refused is not done", x.undo(), 7);
        due("12 evening 998 again", x.count(1), 998);
    }

    private static void promise13() {
        NearlyKnown x = told("plain;shy;plain;as 0 1 1;as 1 0 1;as 1 2 2;room 7");
        due("13 none", x.undo(), NOT);
        x.evening();
        x.introduce(0, 1, 5);
        x.contradict(0, 1);
        x.comes(0, 0);
        due("13 comes", x.undo(), 3);
        due("13 room", x.count(2), 5);
        due("13 contradict", x.undo(), 2);
        due("13 role", x.to(0, 1), 5);
        due("13 introduce", x.undo(), 1);
        due("13 role as it was", x.to(0, 1), 1);
        due("13 evening", x.undo(), 0);
        due("13 the shy one is back", x.count(2), 7);
        due("13 not learnt", x.to(0, 2), NONE);
        due("13 evening 0", x.count(1), 0);
        due("13 none left", x.undo(), NOT);
        for (int i = 0; i < 11; i++) {
            x.comes(0, i % 2);
        }
        due("13 of eleven the last eight", x.count(6), 8);
        for (int i = 7; i >= 0; i--) {
            due("13 eight", x.undo(), i);
        }
        due("13 no ninth", x.undo(), NOT);
        due("13 as it was ahead of the last eight", x.count(2), 6);
    }

    private static void promise14() {
        NearlyKnown x = told("plain;plain");
        x.evening();
        due("14 evening", x.keep(0), 1);
        x.evening();
        due("14 evening 2", x.keep(1), 2);
        dueAll("14 unknown", UNKNOWN, x.keep(2), x.keep(-1), x.keep(LOW), x.keep(HIGH));
        due("14 can be undone yet", x.count(6), 2);
        due("14 first", x.back(0), 1);
        due("14 second", x.back(1), 2);
        x.evening();
        due("14 in place", x.keep(0), 3);
        due("14 the later", x.back(0), 3);
    }

    private static void promise15() {
        NearlyKnown x = told("plain;plain;as 0 1 2;room 1");
        dueAll("15 not", NOT, x.back(0), x.back(1));
        x.keep(1);
        due("15 the other one", x.back(0), NOT);
        x.comes(1, 1);
        x.introduce(1, 0, 3);
        x.contradict(0, 1);
        x.evening();
        x.seen(1, 0, 1);
        due("15 back", x.back(1), 0);
        due("15 room", x.count(2), 1);
        due("15 role", x.to(0, 1), 2);
        due("15 none", x.to(1, 0), NONE);
        due("15 nothing to undo", x.undo(), NOT);
        due("15 seen stays", x.count(5), 1);
        x.comes(0, 0);
        due("15 again", x.back(1), 0);
        due("15 room again", x.count(2), 1);
        dueAll("15 unknown", UNKNOWN, x.back(2), x.back(-1), x.back(HIGH));
        tell(x, "season;host");
        due("15 a new text", x.back(1), NOT);
    }

    private static void promise16() {
        NearlyKnown x = told("plain;smooth;shy;host;as 0 1 1;as 0 2 2;as 1 0 1;as 1 2 2;as 1 3 3;as 3 0 1;as 3 1 2;as 3 2 3");
        due("16 all", x.clash(15), 3);
        due("16 three", x.clash(7), 1);
        due("16 without the plain one's second", x.clash(11), 0);
        due("16 nobody", x.clash(0), 0);
        x.introduce(0, 2, 1);
        due("16 the same role twice is one", x.clash(7), 0);
        dueAll("16 unknown", UNKNOWN, x.clash(16), x.clash(-1), x.clash(LOW), x.clash(HIGH));
    }

    private static void promise17() {
        NearlyKnown x = told("plain;plain;plain;plain;as 0 1 1;as 0 2 2;as 0 3 3;as 1 2 1;as 1 3 2;as 1 0 3");
        due("17 nobody", x.rooms(0, NONE), 0);
        due("17 one", x.rooms(4, NONE), 1);
        due("17 all", x.rooms(15, NONE), 2);
        due("17 he is first", x.rooms(15, 0), 0);
        due("17 the lesser room", x.rooms(15, 1), 0);
        due("17 apart", x.rooms(15, 2), 1);
        due("17 apart, too", x.rooms(15, 3), 1);
        due("17 not of it", x.rooms(12, 0), NONE);
        due("17 he is missing between", x.rooms(13, NONE), 2);
        due("17 the last of these", x.rooms(13, 3), 1);
        due("17 the one behind who is missing", x.rooms(10, 1), 0);
        due("17 of two", x.rooms(12, 3), 0);
        dueAll("17 unknown", UNKNOWN, x.rooms(16, NONE), x.rooms(-1, 0), x.rooms(15, 4), x.rooms(15, -2), x.rooms(0, HIGH));
        // Were each put into the least room that takes him, these would be three.
        x = told("plain;plain;plain;plain;plain;plain;as 1 0 2;as 1 3 1;as 1 4 1;as 1 5 1;as 3 5 2;as 4 3 1;as 4 5 2");
        due("17 fewest", x.rooms(63, NONE), 2);
        int[] first = {0, 1, 0, 0, 0, 1};
        for (int p = 0; p < 6; p++) {
            due("17 the first way", x.rooms(63, p), first[p]);
        }
    }

    private static void promise18() {
        NearlyKnown x = told("plain;plain;plain;plain;as 0 1 1;as 0 2 2;as 3 1 1;as 3 2 2");
        due("18 nobody", x.largest(0), 0);
        due("18 one", x.largest(8), 8);
        due("18 the first one", x.largest(1), 1);
        due("18 of two the least", x.largest(7), 3);
        due("18 all", x.largest(15), 11);
        x.contradict(0, 1);
        x.contradict(3, 1);
        due("18 whole", x.largest(15), 15);
        dueAll("18 unknown", UNKNOWN, x.largest(16), x.largest(-1), x.largest(LOW));
    }

    private static void promise19() {
        NearlyKnown x = told("smooth;plain;plain;plain;as 0 1 1;as 0 2 2;as 0 3 3;room 15");
        due("19 nobody", x.smallest(0), NONE);
        due("19 four", x.smallest(15), 15);
        due("19 none", x.smallest(7), NONE);
        x.introduce(3, 1, 1);
        x.introduce(3, 2, 2);
        due("19 three", x.smallest(15), 14);
        x.introduce(1, 0, 1);
        x.introduce(1, 2, 2);
        due("19 the least", x.smallest(15), 7);
        dueAll("19 unknown", UNKNOWN, x.smallest(16), x.smallest(-1), x.smallest(HIGH));
    }

    private static void promise20() {
        NearlyKnown x = told("plain;plain;plain;smooth;as 0 1 5;as 3 0 1;as 3 1 2;room 3");
        due("20 as he is known", x.may(0, 2), 1 << 5);
        due("20 in place of what he was", x.may(0, 1), 254);
        due("20 a newcomer", x.may(2, 0), 254);
        due("20 the smooth one", x.may(3, 2), 6);
        x.introduce(1, 0, 1);
        x.introduce(1, 3, 2);
        due("20 another one would be two", x.may(0, 3), 0);
        due("20 the newcomer's own", x.may(1, 3), 2);
        due("20 nothing changes", x.count(2), 3);
        due("20 no role changes", x.to(0, 2), NONE);
        dueAll("20 unknown", UNKNOWN, x.may(0, 0), x.may(4, 0), x.may(0, 4), x.may(-1, 0), x.may(HIGH, LOW));
    }

    private static void promise21() {
        NearlyKnown x = told("plain;shy;plain;smooth;as 0 1 3;as 1 0 1;as 1 2 2;as 3 0 1;as 3 1 2;room 15");
        due("21 now", x.learn(0, 3, 0), 2);
        due("21 then", x.learn(0, 3, 1), 14);
        due("21 another role", x.learn(0, 4, 1), 0);
        due("21 first", x.learn(3, 1, 1), 1);
        due("21 when the shy one left", x.learn(3, 1, 2), 5);
        due("21 at last", x.learn(3, 1, 20), 5);
        due("21 changes nothing", x.to(0, 2), NONE);
        due("21 evening", x.count(1), 0);
        dueAll("21 unknown", UNKNOWN, x.learn(4, 1, 1), x.learn(-1, 9, 99));
        dueAll("21 outside", OUTSIDE, x.learn(0, 0, 1), x.learn(0, 8, 1), x.learn(0, 1, -1), x.learn(0, 1, 21), x.learn(0, 1, HIGH));
    }

    private static void promise22() {
        NearlyKnown x = told("shy;plain;plain;as 0 1 1;as 0 2 2;room 7");
        due("22 now", x.stays(0), 7);
        due("22 then", x.stays(1), 6);
        due("22 at last", x.stays(20), 6);
        due("22 changes nothing", x.count(2), 7);
        dueAll("22 outside", OUTSIDE, x.stays(-1), x.stays(21), x.stays(LOW), x.stays(HIGH));
    }

    private static void promise23() {
        NearlyKnown x = told("plain;plain");
        dueAll("23 unknown", UNKNOWN, x.seen(4, 0, 1), x.seen(-1, 0, 1), x.seen(2, 0, 1), x.seen(3, 2, 1), x.seen(3, -1, 9));
        dueAll("23 outside", OUTSIDE, x.seen(3, 0, 8), x.seen(3, 0, -1), x.seen(3, 0, LOW));
        for (int i = 1; i <= 6; i++) {
            due("23 seen", x.seen(3, 0, i - 1), i);
        }
        due("23 full", x.seen(3, 0, 1), FULL);
        due("23 outside first", x.seen(3, 0, 8), OUTSIDE);
        due("23 unknown first", x.seen(3, 2, 1), UNKNOWN);
        due("23 six", x.count(5), 6);
        due("23 can not be undone", x.undo(), NOT);
    }

    private static void promise24() {
        NearlyKnown x = told("plain;plain");
        due("24 none", x.forget(), 0);
        x.seen(3, 0, 1);
        x.seen(3, 1, 0);
        due("24 two", x.forget(), 2);
        due("24 nothing", x.count(5), 0);
        due("24 so all may be", x.was(0, 1), 255);
    }

    private static void promise25() {
        NearlyKnown x = told("smooth;plain;plain;as 0 2 4");
        due("25 nothing seen", x.was(0, 1), 255);
        x.seen(7, 0, 4);
        due("25 none, or the same", x.was(0, 1), 1 | 16);
        x.seen(3, 0, 4);
        due("25 the same", x.was(0, 1), 16);
        x.forget();
        x.seen(7, 0, 0);
        due("25 more than one, though he bears two", x.was(0, 1), 254 & ~16);
        x.seen(6, 1, 3);
        due("25 another one's is not so", x.was(0, 1), 0);
        x.introduce(1, 2, 3);
        due("25 another one's is so", x.was(0, 1), 254 & ~16);
        due("25 his own", x.was(1, 2), 0);
        x.introduce(0, 1, 2);
        due("25 his own, all else being so", x.was(1, 2), 8);
        due("25 changes nothing", x.to(1, 2), 3);
        dueAll("25 unknown", UNKNOWN, x.was(0, 0), x.was(3, 0), x.was(0, 3), x.was(-1, 0), x.was(0, HIGH));
    }

    private static void promise26() {
        NearlyKnown x = told("plain;plain;plain;as 0 1 1;as 0 2 2");
        due("26 half", x.chance(7, 5, 0), 7);
        due("26 half, below", x.chance(7, 5, 1), 8);
        due("26 never", x.chance(7, 0, 0), 1);
        due("26 never, below", x.chance(7, 0, 1), 1);
        due("26 all come", x.chance(7, 10, 0), 0);
        due("26 all come, below", x.chance(7, 10, 1), 1);
        due("26 two", x.chance(6, 10, 0), 1);
        due("26 three of ten", x.chance(7, 3, 0), 973);
        due("26 three of ten, below", x.chance(7, 3, 1), 1000);
        due("26 nobody", x.chance(0, 7, 0), 1);
        dueAll("26 unknown", UNKNOWN, x.chance(8, 5, 0), x.chance(-1, 99, 9), x.chance(LOW, 5, 0));
        dueAll("26 outside", OUTSIDE, x.chance(7, -1, 0), x.chance(7, 11, 0), x.chance(7, 5, 2), x.chance(7, 5, -1));
        x = told("plain;plain;plain;plain;plain;plain;as 0 1 1;as 0 2 2");
        due("26 six", x.chance(63, 9, 0), 271);
        due("26 six, below", x.chance(63, 9, 1), 1000);
    }

    private static void promise27() {
        NearlyKnown x = told("plain;plain;shy;as 0 1 1;as 0 2 2;as 1 2 2;as 2 0 3;room 7");
        x.evening();
        x.comes(1, 0);
        x.comes(1, 1);
        x.seen(3, 0, 1);
        write(x, "room");
        int[] want = {3, 1, 7, 1, 6, 1, 3, 4};
        for (int what = 0; what < 8; what++) {
            due("27 count " + what, x.count(what), want[what]);
        }
        dueAll("27 outside", OUTSIDE, x.count(-1), x.count(8), x.count(LOW), x.count(HIGH));
    }

    public static void main(String[] args) {
        promise1();
        promise2();
        promise3();
        promise4();
        promise5();
        promise6();
        promise7();
        promise8();
        promise9();
        promise10();
        promise11();
        promise12();
        promise13();
        promise14();
        promise15();
        promise16();
        promise17();
        promise18();
        promise19();
        promise20();
        promise21();
        promise22();
        promise23();
        promise24();
        promise25();
        promise26();
        promise27();
        System.out.println("promises: " + checks + " answers looked at, " + wrong + " not as due");
        if (wrong != 0) {
            System.exit(1);
        }
    }
}
