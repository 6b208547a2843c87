/** The boundary cases of what is told: promises 1 to 8, and what the Terms say of THE TEXT. */
public final class ToldBoundaryTest extends Boundary {
    private static final String TWO = "plain;shy";
    private static final String FOURTEEN = "season;".repeat(13) + "season";

    public static void main(String[] args) {
        run(ToldBoundaryTest.class, 1, 8);
    }

    /** The text has its fault there, behind what was told; it is asked twice, and read as it says. */
    private static void fault(int want, String told, String text) {
        NearlyKnown x = write(told.isEmpty() ? told() : told(told), text);
        due(want, x.fault(), x.fault());
        due(text.length(), x.count(7));
        int clauses = x.season();
        due(want == NONE ? 1 : 0, clauses >= 1 ? 1 : 0);
        due(want == NONE ? 0 : text.length(), x.count(7));
    }

    // ---- 1 a new object

    static void promise1NobodyIsThereAtFirst() {
        NearlyKnown x = new NearlyKnown();
        due(0, x.count(0), x.count(4));
        for (int p = -1; p < 7; p++) {
            due(UNKNOWN, x.person(p, 0), x.to(p, p + 1), x.as(p, 0), x.comes(p, 1), x.rooms(0, p == NONE ? 0 : p));
        }
    }

    static void promise1TheRoomIsEmptyAtFirst() {
        NearlyKnown x = new NearlyKnown();
        due(0, x.count(2), x.count(3), x.stays(0), x.stays(20));
    }

    static void promise1ItIsEveningZeroAtFirst() {
        due(0, new NearlyKnown().count(1), new NearlyKnown().keep(0), new NearlyKnown().keep(1));
    }

    static void promise1TheTextIsEmptyAtFirst() {
        NearlyKnown x = new NearlyKnown();
        due(0, x.count(7), x.fault(), x.erase());
        due(NOT, x.season());
    }

    static void promise1NothingIsSeenKeptOrToBeUndoneAtFirst() {
        NearlyKnown x = new NearlyKnown();
        due(0, x.count(5), x.count(6), x.forget());
        due(NOT, x.undo(), x.back(0), x.back(1));
    }

    static void promise1TheSetOfNobodyIsASet() {
        NearlyKnown x = new NearlyKnown();
        due(0, x.clash(0), x.rooms(0, NONE), x.largest(0));
        due(NONE, x.smallest(0));
        due(1, x.chance(0, 0, 0), x.chance(0, 10, 1));
        due(UNKNOWN, x.clash(1), x.rooms(1, NONE), x.largest(1), x.smallest(1), x.chance(1, 5, 0), x.seen(0, 0, 1));
    }

    static void promise1ObjectsHaveNothingInCommon() {
        NearlyKnown other = new NearlyKnown();
        busy();
        same(stateOf(other), stateOf(new NearlyKnown()));
    }

    // ---- 2 write

    static void promise2LetterZeroIsTaken() {
        due(1, new NearlyKnown().write(0));
    }

    static void promise2Letter255IsTaken() {
        due(1, new NearlyKnown().write(255));
    }

    static void promise2TooSmallALetterIsOutside() {
        refused(OUTSIDE, Boundary::busy, x -> x.write(-1), x -> x.write(LOW));
    }

    static void promise2TooLargeALetterIsOutside() {
        refused(OUTSIDE, Boundary::busy, x -> x.write(256), x -> x.write(HIGH), x -> x.write(256 + 'a'));
    }

    static void promise2The160thLetterIsTaken() {
        NearlyKnown x = new NearlyKnown();
        for (int i = 1; i <= 160; i++) {
            due(i, x.write('a'));
        }
    }

    static void promise2The161stLetterIsFull() {
        refused(FULL, () -> write(told(TWO), padded("shy", 160)),
                x -> x.write(' '), x -> x.write('x'), x -> x.write(0), x -> x.write(255));
    }

    static void promise2OutsideComesAheadOfFull() {
        refused(OUTSIDE, () -> write(told(TWO), padded("shy", 160)), x -> x.write(-1), x -> x.write(256));
    }

    static void promise2AFullTextIsReadToItsLastLetter() {
        NearlyKnown x = write(told("plain"), " ".repeat(154) + "room 1");
        due(NONE, x.fault());
        due(1, x.season());
        due(1, x.count(2));
    }

    static void promise2BehindAFullTextThatWasDoneTheFirstLetterIsTaken() {
        due(1, told(padded("shy", 160)).write('x'));
    }

    // ---- 3 erase

    static void promise3OfAnEmptyTextIsZero() {
        due(0, new NearlyKnown().erase(), told(TWO).erase());
    }

    static void promise3OfAFullTextIs160() {
        NearlyKnown x = write(new NearlyKnown(), "x".repeat(161));
        due(160, x.erase());
        due(0, x.count(7), x.erase());
    }

    static void promise3WhatIsErasedIsNotReadAgain() {
        NearlyKnown x = write(new NearlyKnown(), "plain;plain;plain");
        x.erase();
        due(0, x.fault());
        write(x, "shy");
        due(1, x.season());
        due(1, x.count(0));
    }

    static void promise3WhatIsErasedIsNotReadBehindTheEnd() {
        String[][] texts = {{"room 1", "room "}, {"as 0 1 1", "as 0 1 "}, {"as 0 1 1", "as 0 "}, {"as 0 1 1", "as "},
            {"shy;shy", "shy;"}, {"shyx", "shy"}, {"shy x", "shy "}, {"shy;x", "shy"}, {"room 111", "room 1"}};
        for (String[] both : texts) {
            NearlyKnown x = write(told(TWO), both[0]);
            x.erase();
            int length = both[1].length();
            boolean whole = both[1].trim().equals("shy") || both[1].equals("room 1");
            due(whole ? NONE : length, write(x, both[1]).fault());
            due(whole ? 1 : NOT, x.season());
        }
    }

    static void promise3AllButTheTextStays() {
        changesNothing(() -> {
            NearlyKnown x = busy();
            x.erase();
            return x;
        }, x -> x.write('a') + x.erase());
        NearlyKnown x = busy();
        x.erase();
        write(x, "shy;as 4 0 1");
        same(stateOf(x), stateOf(busy()));
        due(4, x.undo());
    }

    // ---- 4 fault

    static void promise4TheEmptyTextEndsTooSoon() {
        fault(0, "", "");
        fault(0, TWO, "");
    }

    static void promise4ATextOfBlanksEndsTooSoonAtItsLength() {
        fault(1, "", " ");
        fault(160, "", " ".repeat(160));
    }

    static void promise4EachClauseMayStandAlone() {
        for (String clause : new String[] {"season", "plain", "smooth", "shy", "host", "as 0 1 1", "room 1"}) {
            fault(NONE, TWO, clause);
        }
    }

    static void promise4TheEndBehindAsIsTooSoon() {
        fault(2, TWO, "as");
        fault(4, TWO, "as 0");
        fault(6, TWO, "as 0 1");
        fault(NONE, TWO, "as 0 1 1");
    }

    static void promise4TheEndBehindRoomIsTooSoon() {
        fault(4, TWO, "room");
        fault(NONE, TWO, "room 0");
    }

    static void promise4TheEndBehindASemicolonIsTooSoon() {
        fault(4, TWO, "shy;");
        fault(7, TWO, "room 0;");
        fault(9, TWO, "as 0 1 1;");
    }

    static void promise4TheEndIsBehindBlanksToo() {
        fault(5, TWO, "as   ");
        fault(7, TWO, "as 0   ");
        fault(8, TWO, "as 0 1  ");
        fault(6, TWO, "room  ");
        fault(6, TWO, "shy;  ");
    }

    static void promise4ASemicolonComesTooSoon() {
        fault(0, TWO, ";");
        fault(0, TWO, ";shy");
        fault(4, TWO, "shy;;shy");
        fault(5, TWO, "shy; ;shy");
        fault(2, TWO, "as;shy");
        fault(4, TWO, "as 0;shy");
        fault(6, TWO, "as 0 1;shy");
        fault(4, TWO, "room;shy");
    }

    static void promise4BetweenClausesASemicolonMustStand() {
        fault(4, TWO, "shy shy");
        fault(9, TWO, "as 0 1 1 shy");
        fault(7, TWO, "room 0 room 0");
        fault(3, TWO, "shy,shy");
    }

    static void promise4ANumberTooManyCannotStand() {
        fault(4, TWO, "shy 1");
        fault(7, TWO, "season 0");
        fault(9, TWO, "as 0 1 1 1");
        fault(7, TWO, "room 0 1");
    }

    static void promise4AWordIsOneWholeToken() {
        fault(0, TWO, "sh");
        fault(0, TWO, "shyy");
        fault(0, TWO, "ashy");
        fault(0, TWO, "plai");
        fault(0, TWO, "plains");
        fault(0, TWO, "hos");
        fault(0, TWO, "hosts");
        fault(0, TWO, "smoot");
        fault(0, TWO, "smooths");
        fault(0, TWO, "a");
        fault(0, TWO, "ass 0 1 1");
        fault(0, TWO, "roo 1");
        fault(0, TWO, "rooms 1");
        fault(0, TWO, "seasonshy");
        fault(4, TWO, "shy;person");
    }

    static void promise4AWordDiffersByOneLetter() {
        for (String word : new String[] {"sezson", "plaim", "tmooth", "shx", "gost", "at 0 1 1", "rokm 1"}) {
            fault(0, TWO, word);
            fault(4, TWO, "shy;" + word);
        }
    }

    static void promise4CapitalLettersAreNoSmallLetters() {
        fault(0, TWO, "Shy");
        fault(2, TWO, "asA 0 1 1");
        fault(3, TWO, "shyZ");
        fault(0, TWO, "PLAIN");
        fault(4, TWO, "roomS 1");
    }

    static void promise4SmallLettersGoFromAToZ() {
        for (int i = 0; i < 26; i++) {
            fault(0, TWO, "shy" + (char) ('a' + i));
        }
        fault(3, TWO, "shy" + (char) ('a' - 1));
        fault(3, TWO, "shy" + (char) ('z' + 1));
    }

    static void promise4DigitsGoFromZeroToNine() {
        for (int i = 0; i < 10; i++) {
            fault(5, TWO, "room 00" + i);
        }
        fault(6, TWO, "room 0" + (char) ('0' - 1));
        fault(6, TWO, "room 0" + (char) ('9' + 1));
    }

    static void promise4AnyOtherLetterIsATokenOfItsOwn() {
        for (char letter : new char[] {0, 9, 10, 31, '!', '.', '@', 127, 160, 255}) {
            fault(0, TWO, letter + "shy");
            fault(3, TWO, "shy" + letter + letter);
            fault(3, TWO, "as " + letter + "0 1 1");
            fault(4, TWO, "as 0" + letter + "1 1");
        }
    }

    static void promise4LettersAndDigitsAreTokensOfTheirOwn() {
        fault(3, TWO, "shy1");
        fault(0, TWO, "1shy");
        fault(6, TWO, "room 0shy");
        fault(4, TWO, "as 0as 1 1");
        fault(6, TWO, "room 0a0");
        fault(NONE, TWO, "as0 1 1;room3");
    }

    static void promise4BlanksMayStandBetweenTokens() {
        fault(NONE, TWO, "  shy  ;  as   0   1   1  ;room  1 ");
    }

    static void promise4BlanksPartTokens() {
        fault(0, TWO, "sh y");
        fault(0, TWO, "pl ain");
        fault(10, TWO, "as 0 1 1  1");
        fault(8, TWO, "room 1  1");
    }

    static void promise4ANumberOfTwoDigitsMayStand() {
        fault(NONE, TWO, "as 00 01 07");
        fault(NONE, TWO, "room 03");
        fault(NONE, SIX, "room 63");
    }

    static void promise4ANumberOfThreeDigitsCannotStand() {
        fault(3, TWO, "as 000 1 1");
        fault(5, TWO, "as 0 001 1");
        fault(7, TWO, "as 0 1 001");
        fault(5, TWO, "room 001");
        fault(5, TWO, "room " + "0".repeat(155));
        fault(5, TWO, "room 4294967297");
    }

    static void promise4AWordIsNoNumber() {
        fault(3, TWO, "as plain 1 1");
        fault(5, TWO, "as 0 shy 1");
        fault(7, TWO, "as 0 1 as");
        fault(5, TWO, "room room");
        fault(5, TWO, "room x");
    }

    static void promise4ANumberIsNoWord() {
        fault(0, TWO, "1");
        fault(4, TWO, "shy;1");
    }

    static void promise4TheFirstOfAsMustBeToldAhead() {
        fault(NONE, TWO, "as 1 0 1");
        fault(3, TWO, "as 2 0 1");
        fault(NONE, SIX, "as 5 0 1");
        fault(3, SIX, "as 6 0 1");
        fault(3, SIX, "as 99 0 1");
        fault(3, "", "as 0 1 1");
    }

    static void promise4TheSecondOfAsMustBeToldAhead() {
        fault(NONE, TWO, "as 0 1 1");
        fault(5, TWO, "as 0 2 1");
        fault(NONE, SIX, "as 0 5 1");
        fault(5, SIX, "as 0 6 1");
        fault(5, SIX, "as 0 99 1");
    }

    static void promise4TheSecondOfAsMustBeAnotherOne() {
        fault(5, TWO, "as 0 0 1");
        fault(5, TWO, "as 1 1 1");
        fault(5, TWO, "as 1 01 1");
        fault(11, "", "plain;as 0 0 1");
    }

    static void promise4TheRoleOfAsIsFromOneToSeven() {
        fault(7, TWO, "as 0 1 0");
        fault(NONE, TWO, "as 0 1 1");
        fault(NONE, TWO, "as 0 1 7");
        fault(7, TWO, "as 0 1 8");
        fault(7, TWO, "as 0 1 99");
        fault(7, TWO, "as 0 1 00");
    }

    static void promise4TheRoomIsASetOfThoseToldAhead() {
        fault(NONE, "", "room 0");
        fault(5, "", "room 1");
        fault(NONE, "plain", "room 1");
        fault(5, "plain", "room 2");
        fault(NONE, TWO, "room 3");
        fault(5, TWO, "room 4");
        fault(5, TWO, "room 5");
        fault(NONE, SIX, "room 63");
        fault(5, SIX, "room 64");
        fault(5, SIX, "room 99");
    }

    static void promise4WhoIsToldBehindIsNotToldAhead() {
        fault(3, "", "as 0 1 1;plain;plain");
        fault(5, TWO, "as 0 2 1;plain");
        fault(5, TWO, "room 4;plain");
        fault(NONE, TWO, "plain;as 0 2 1;room 4");
    }

    static void promise4BehindSeasonNobodyIsToldAhead() {
        fault(10, TWO, "season;as 0 1 1");
        fault(12, TWO, "season;room 1");
        fault(18, TWO, "season;plain;room 2");
        fault(NONE, TWO, "season;plain;room 1");
        fault(NONE, TWO, "season;room 0");
    }

    static void promise4TheSixthOneMayStand() {
        fault(NONE, "", SIX);
        fault(NONE, "plain;plain;plain;plain;plain", "host");
    }

    static void promise4TheSeventhCannotStandAtItsWord() {
        for (String word : new String[] {"plain", "smooth", "shy", "host"}) {
            fault(SIX.length() + 1, "", SIX + ";" + word);
            fault(SIX.length() + 3, "", SIX + ";  " + word);
            fault(0, SIX, word);
            fault(4, "plain;plain;plain;plain;plain", "shy;" + word);
        }
    }

    static void promise4TheSeventhIsAFaultAheadOfWhatFollowsHim() {
        fault(0, SIX, "plain 3");
        fault(0, SIX, "plain;x");
        fault(0, SIX, "plain;season");
    }

    static void promise4BehindSeasonSixMoreMayStand() {
        fault(NONE, SIX, "season;" + SIX);
        fault(7 + SIX.length() + 1, SIX, "season;" + SIX + ";shy");
    }

    static void promise4FourteenClausesMayStand() {
        fault(NONE, "", FOURTEEN);
        fault(NONE, "", FOURTEEN + "  ");
        fault(NONE, TWO, "room 0;".repeat(13) + "as 0 1 7");
    }

    static void promise4AFifteenthClauseCannotStand() {
        fault(FOURTEEN.length(), "", FOURTEEN + ";season");
        fault(FOURTEEN.length() + 1, "", FOURTEEN + " ; season");
        fault(FOURTEEN.length(), "", FOURTEEN + ";");
        fault(FOURTEEN.length(), "", FOURTEEN + ";x");
    }

    static void promise4AFaultInTheFourteenthClauseIsTold() {
        fault(13 * 7, "", "season;".repeat(13) + "x");
        fault(13 * 7, "", "season;".repeat(13));
        fault(13 * 7 + 5, TWO, "season;".repeat(13) + "room 1;season");
    }

    static void promise4OfSeveralFaultsTheFirstIsTold() {
        fault(3, TWO, "as 9 9 9;x;room 99");
        fault(5, TWO, "as 0 9 9;x");
        fault(7, TWO, "as 0 1 9;x");
        fault(4, TWO, "shy;x;y");
    }

    static void promise4AFaultAtTheLastLetterOfAFullText() {
        fault(159, TWO, padded("shy", 159) + "x");
        fault(160, TWO, padded("shy;", 160));
        fault(160, TWO, padded("shy", 159) + ";");
    }

    static void promise4AWordOf160LettersIsAFaultAtItsBegin() {
        fault(0, TWO, "s".repeat(160));
        fault(1, TWO, " " + "1".repeat(159));
    }

    static void promise4AskingChangesNothing() {
        changesNothing(Boundary::busy, NearlyKnown::fault);
        changesNothing(() -> write(busy(), ";x"), NearlyKnown::fault);
        changesNothing(() -> write(busy(), ";season;host;x"), NearlyKnown::fault);
    }

    static void promise4WhoWasReadAheadOfTheFaultIsNotTold() {
        NearlyKnown x = write(told("plain"), "shy;x");
        due(4, x.fault());
        x.erase();
        write(x, "as 0 1 1");
        due(5, x.fault());
    }

    // ---- 5 season

    static void promise5AnEmptyTextIsRefused() {
        refused(NOT, () -> {
            NearlyKnown x = busy();
            x.erase();
            return x;
        }, NearlyKnown::season);
    }

    static void promise5AFaultAnywhereRefusesAll() {
        refused(NOT, () -> write(busy(), ";"), NearlyKnown::season);
        refused(NOT, () -> write(busy(), ";season;host;room 2"), NearlyKnown::season);
        refused(NOT, () -> write(busy(), ";room 0;as 0 1 8"), NearlyKnown::season);
    }

    static void promise5ASeventhRefusesAll() {
        refused(NOT, () -> write(busy(), ";host;host"), NearlyKnown::season);
    }

    static void promise5OneClauseIsOne() {
        due(1, write(new NearlyKnown(), "season").season(), write(new NearlyKnown(), " host ").season());
    }

    static void promise5FourteenClausesAreFourteen() {
        due(14, write(new NearlyKnown(), FOURTEEN).season());
    }

    static void promise5AFifteenthRefusesAll() {
        refused(NOT, () -> write(told(TWO), FOURTEEN + ";season"), NearlyKnown::season);
    }

    static void promise5TheTextIsEmptyThen() {
        NearlyKnown x = told(padded("plain", 160));
        due(0, x.count(7), x.fault(), x.erase());
        due(NOT, x.season());
        due(1, x.count(0));
    }

    static void promise5ClausesAreDoneInTheirOrder() {
        NearlyKnown x = told(TWO + ";as 0 1 7;as 0 1 1;room 3;room 0");
        due(1, x.to(0, 1));
        due(0, x.count(2));
        x = told(TWO + ";as 0 1 1;as 0 1 7;room 0;room 3");
        due(7, x.to(0, 1));
        due(3, x.count(2));
    }

    static void promise5SeasonIsDoneWhereItStands() {
        due(0, told(SIX + ";season").count(0));
        due(1, told(SIX + ";season;host").count(0));
        due(6, told("host;season;" + SIX).count(0));
    }

    static void promise5WhatEarlierTextsToldStays() {
        NearlyKnown x = told("smooth;host;as 0 1 7;room 2", "shy");
        due(3, x.count(0));
        due(1, x.person(0, 0));
        due(3, x.person(1, 0));
        due(2, x.person(2, 0), x.count(2));
        due(7, x.to(0, 1));
    }

    static void promise5PeopleAreNumberedAsTheyCome() {
        NearlyKnown x = told("host;shy", "smooth", "plain");
        due(3, x.person(0, 0));
        due(2, x.person(1, 0));
        due(1, x.person(2, 0));
        due(0, x.person(3, 0));
        due(UNKNOWN, x.person(4, 0));
    }

    static void promise5ANewOneIsInNoRoom() {
        NearlyKnown x = told("plain;room 1;plain");
        due(1, x.count(2));
        due(0, x.person(1, 1));
    }

    static void promise5ANewOneIsNothingToAnybodyNorAnybodyToHim() {
        NearlyKnown x = told("plain;plain;as 0 1 1;as 1 0 2;room 3;season;plain;plain", "plain");
        for (int p = 0; p < 3; p++) {
            due(NONE, x.to(p, (p + 1) % 3), x.to(p, (p + 2) % 3));
        }
        due(0, x.count(4), x.count(2));
    }

    static void promise5BehindItIsEveningZero() {
        NearlyKnown x = told(TWO);
        x.evening();
        x.evening();
        due(2, x.count(1));
        due(0, tell(x, "host").count(1));
    }

    static void promise5BehindItAllIsAsToldWhateverWasDone() {
        NearlyKnown x = told(TWO + ";as 0 1 3;room 1");
        x.contradict(0, 1);
        x.introduce(1, 0, 4);
        x.comes(0, 0);
        x.comes(1, 1);
        tell(x, "host");
        due(3, x.to(0, 1));
        due(NONE, x.to(1, 0));
        due(1, x.count(2));
    }

    static void promise5BehindItAllIsAsToldWhateverWasLearnt() {
        NearlyKnown x = told("plain;shy;plain;as 0 1 3;as 1 0 1;as 1 2 2;room 7");
        due(2, x.evening());
        due(3, x.to(0, 2));
        tell(x, "host");
        due(NONE, x.to(0, 2));
        due(7, x.count(2));
    }

    static void promise5BehindItAllIsAsToldWhateverWasKept() {
        NearlyKnown x = told(TWO + ";as 0 1 3");
        x.introduce(0, 1, 5);
        x.keep(0);
        x.back(0);
        due(3, tell(x, "host").to(0, 1));
    }

    static void promise5BehindItNothingIsSeen() {
        NearlyKnown x = told(TWO);
        x.seen(3, 0, 7);
        due(128, x.was(0, 1));
        tell(x, "host");
        due(0, x.count(5), x.forget());
        due(255, x.was(0, 1));
    }

    static void promise5BehindItNothingIsKept() {
        NearlyKnown x = told(TWO);
        x.keep(0);
        x.keep(1);
        tell(x, "host");
        due(NOT, x.back(0), x.back(1));
    }

    static void promise5BehindItNothingCanBeUndone() {
        NearlyKnown x = told(TWO);
        x.comes(0, 1);
        tell(x, "room 2");
        due(0, x.count(6));
        due(NOT, x.undo());
        due(2, x.count(2));
    }

    static void promise5TheSeasonClauseLeavesNobody() {
        same(stateOf(tell(busyWithoutText(), "season")), stateOf(new NearlyKnown()));
    }

    static void promise5TheRoomOfNobodyIsEmpty() {
        due(0, told(TWO + ";room 3", "room 0").count(2));
    }

    static void promise5TheRoomOfAllSixIsFull() {
        due(63, told(SIX, "room 63").count(2));
    }

    private static NearlyKnown busyWithoutText() {
        NearlyKnown x = busy();
        x.erase();
        return x;
    }

    // ---- 6 person

    static void promise6TheFirstAndTheSixthAreKnown() {
        NearlyKnown x = told(SIX);
        due(0, x.person(0, 0));
        due(2, x.person(5, 0));
    }

    static void promise6WhoIsNotThereIsUnknown() {
        refused(UNKNOWN, Boundary::busy, x -> x.person(-1, 0), x -> x.person(4, 0), x -> x.person(LOW, 1),
                x -> x.person(HIGH, 4), x -> x.person(32, 2));
        refused(UNKNOWN, () -> told(SIX), x -> x.person(6, 0));
    }

    static void promise6WhatBelowZeroIsOutside() {
        refused(OUTSIDE, Boundary::busy, x -> x.person(0, -1), x -> x.person(3, LOW));
    }

    static void promise6WhatAboveFourIsOutside() {
        refused(OUTSIDE, Boundary::busy, x -> x.person(0, 5), x -> x.person(3, HIGH));
    }

    static void promise6UnknownComesAheadOfOutside() {
        refused(UNKNOWN, Boundary::busy, x -> x.person(-1, -1), x -> x.person(4, 5));
    }

    static void promise6WhoIsNotInTheRoomMustBeNothing() {
        NearlyKnown x = told("plain;plain;plain;as 0 1 1;as 0 2 2;room 6");
        due(0, x.person(0, 1), x.person(0, 2), x.person(0, 3));
        due(2, x.person(0, 4));
    }

    static void promise6WhoIsAloneMustBeNothing() {
        NearlyKnown x = told("plain;plain;as 0 1 1;room 1");
        due(1, x.person(0, 1));
        due(0, x.person(0, 2), x.person(0, 3));
    }

    static void promise6TheLeastAndTheGreatestRoleHaveTheirBits() {
        NearlyKnown x = told("host;plain;plain;as 0 1 1;as 0 2 7;room 7");
        due(1 << 1 | 1 << 7, x.person(0, 2));
    }

    static void promise6APlainOneBearsOneRole() {
        NearlyKnown x = told("plain;plain;plain;as 0 1 1;as 0 2 2;room 3");
        due(0, x.person(0, 3));
        x.comes(2, 1);
        due(1, x.person(0, 3));
    }

    static void promise6ASmoothOneBearsTwoRoles() {
        NearlyKnown x = told("smooth;plain;plain;plain;as 0 1 1;as 0 2 2;as 0 3 3;room 7");
        due(0, x.person(0, 3));
        x.comes(3, 1);
        due(1, x.person(0, 3));
    }

    static void promise6AShyOneBearsOneRole() {
        NearlyKnown x = told("shy;plain;plain;as 0 1 1;as 0 2 2;room 3");
        due(0, x.person(0, 3));
        x.comes(2, 1);
        due(1, x.person(0, 3));
    }

    static void promise6AHostBearsAnyNumber() {
        NearlyKnown x = told("host;plain;plain;plain;plain;plain;as 0 1 1;as 0 2 2;as 0 3 3;as 0 4 4;as 0 5 7;room 63");
        due(0, x.person(0, 3));
        due(2 | 4 | 8 | 16 | 128, x.person(0, 2));
    }

    static void promise6TheSameRoleToSeveralIsOne() {
        NearlyKnown x = told("plain;plain;plain;plain;as 0 1 7;as 0 2 7;as 0 3 7;room 15");
        due(128, x.person(0, 2));
        due(0, x.person(0, 3));
        due(3, x.person(0, 4));
    }

    static void promise6WhatOthersAreToHimIsNotWhatHeMustBe() {
        NearlyKnown x = told("plain;plain;plain;as 1 0 1;as 2 0 2;room 7");
        due(0, x.person(0, 2), x.person(0, 3), x.person(0, 4));
    }

    static void promise6HeMayBeARoleToNobodyAndToAllFive() {
        due(0, told(SIX).person(0, 4));
        due(5, strangers().person(0, 4), strangers().person(5, 4));
    }

    // ---- 7 to

    static void promise7WhoIsNoRoleIsNone() {
        due(NONE, told(TWO + ";as 0 1 1").to(1, 0));
    }

    static void promise7TheLeastAndTheGreatestRole() {
        NearlyKnown x = told(TWO + ";as 0 1 1;as 1 0 7");
        due(1, x.to(0, 1));
        due(7, x.to(1, 0));
    }

    static void promise7TheFirstAndTheSixth() {
        due(6, strangers().to(0, 5));
        due(1, strangers().to(5, 0));
    }

    static void promise7OneAndHimselfIsUnknown() {
        refused(UNKNOWN, Boundary::busy, x -> x.to(0, 0), x -> x.to(3, 3));
    }

    static void promise7WhoIsNotThereIsUnknown() {
        refused(UNKNOWN, Boundary::busy, x -> x.to(-1, 0), x -> x.to(0, -1), x -> x.to(4, 0), x -> x.to(0, 4),
                x -> x.to(LOW, 0), x -> x.to(0, LOW), x -> x.to(HIGH, 0), x -> x.to(0, HIGH), x -> x.to(4, 5));
    }

    // ---- 8 as

    static void promise8EachIsAPerson() {
        NearlyKnown x = told(SIX);
        due(1, x.as(0, 0), x.as(2, 0));
        due(2, x.as(1, 0));
        due(7, x.as(3, 0));
    }

    static void promise8ASmoothOneAndAShyOneArePlain() {
        NearlyKnown x = told(SIX);
        due(1, x.as(0, 1), x.as(2, 1));
        due(2, x.as(1, 1));
    }

    static void promise8TheLastKindIsTaken() {
        due(7, told(SIX).as(3, 4));
    }

    static void promise8WhoIsNoneSuchIsRefused() {
        refused(NOT, Boundary::busy, x -> x.as(3, 1), x -> x.as(0, 2), x -> x.as(2, 2), x -> x.as(3, 2), x -> x.as(0, 3),
                x -> x.as(1, 3), x -> x.as(3, 3), x -> x.as(0, 4), x -> x.as(1, 4), x -> x.as(2, 4));
    }

    static void promise8KindsBelowZeroAreOutside() {
        refused(OUTSIDE, Boundary::busy, x -> x.as(0, -1), x -> x.as(3, LOW));
    }

    static void promise8KindsAboveFourAreOutside() {
        refused(OUTSIDE, Boundary::busy, x -> x.as(0, 5), x -> x.as(3, HIGH));
    }

    static void promise8WhoIsNotThereIsUnknown() {
        refused(UNKNOWN, Boundary::busy, x -> x.as(-1, 0), x -> x.as(4, 0), x -> x.as(LOW, 1), x -> x.as(HIGH, 1));
    }

    static void promise8UnknownComesAheadOfOutside() {
        refused(UNKNOWN, Boundary::busy, x -> x.as(-1, -1), x -> x.as(4, 5));
    }
}
