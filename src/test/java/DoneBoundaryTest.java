import java.util.List;

/** The boundary cases of what is done: promises 9 to 15, and what the Terms say of AN EVENING. */
public final class DoneBoundaryTest extends Boundary {
    public static void main(String[] args) {
        run(DoneBoundaryTest.class, 9, 15);
    }

    // ---- 9 comes

    static void promise9TheFirstComesIntoAnEmptyRoom() {
        due(1, told(SIX).comes(0, 1));
    }

    static void promise9TheSixthFillsTheRoom() {
        due(63, told(SIX + ";room 31").comes(5, 1));
    }

    static void promise9TheLastOneGoes() {
        due(0, told(SIX + ";room 32").comes(5, 0));
    }

    static void promise9WhoIsInItCannotCome() {
        refused(NOT, Boundary::busy, x -> x.comes(0, 1), x -> x.comes(3, 1));
    }

    static void promise9WhoIsNotInItCannotGo() {
        refused(NOT, () -> told(SIX + ";room 1"), x -> x.comes(1, 0), x -> x.comes(5, 0));
    }

    static void promise9OnBelowZeroIsOutside() {
        refused(OUTSIDE, Boundary::busy, x -> x.comes(0, -1), x -> x.comes(2, LOW));
    }

    static void promise9OnAboveOneIsOutside() {
        refused(OUTSIDE, Boundary::busy, x -> x.comes(0, 2), x -> x.comes(2, HIGH));
    }

    static void promise9WhoIsNotThereIsUnknown() {
        refused(UNKNOWN, Boundary::busy, x -> x.comes(-1, 1), x -> x.comes(4, 1), x -> x.comes(LOW, 0),
                x -> x.comes(HIGH, 0), x -> x.comes(32, 0));
        refused(UNKNOWN, () -> told(SIX), x -> x.comes(6, 1));
    }

    static void promise9UnknownComesAheadOfOutside() {
        refused(UNKNOWN, Boundary::busy, x -> x.comes(-1, 2), x -> x.comes(4, -1));
    }

    static void promise9RolesStayWhenOneGoes() {
        NearlyKnown x = told("plain;plain;as 0 1 1;as 1 0 2;room 3");
        x.comes(0, 0);
        due(1, x.to(0, 1));
        due(2, x.to(1, 0));
    }

    // ---- 10 introduce

    static void promise10TheLeastAndTheGreatestRoleAreTaken() {
        NearlyKnown x = told(SIX);
        due(NONE, x.introduce(0, 5, 1), x.introduce(5, 0, 7));
        due(1, x.to(0, 5));
        due(7, x.to(5, 0));
    }

    static void promise10RoleZeroIsOutside() {
        refused(OUTSIDE, Boundary::busy, x -> x.introduce(0, 1, 0), x -> x.introduce(1, 2, -1), x -> x.introduce(1, 2, LOW));
    }

    static void promise10RoleEightIsOutside() {
        refused(OUTSIDE, Boundary::busy, x -> x.introduce(0, 1, 8), x -> x.introduce(1, 2, HIGH));
    }

    static void promise10OneAndHimselfIsUnknown() {
        refused(UNKNOWN, Boundary::busy, x -> x.introduce(0, 0, 1), x -> x.introduce(3, 3, 7));
    }

    static void promise10WhoIsNotThereIsUnknown() {
        refused(UNKNOWN, Boundary::busy, x -> x.introduce(-1, 0, 1), x -> x.introduce(0, -1, 1), x -> x.introduce(4, 0, 1),
                x -> x.introduce(0, 4, 1), x -> x.introduce(LOW, 0, 1), x -> x.introduce(0, HIGH, 1));
    }

    static void promise10UnknownComesAheadOfOutside() {
        refused(UNKNOWN, Boundary::busy, x -> x.introduce(0, 0, 0), x -> x.introduce(4, 0, 8), x -> x.introduce(0, -1, 8));
    }

    static void promise10InPlaceOfWhatHeWas() {
        NearlyKnown x = told("plain;plain;as 0 1 7");
        due(7, x.introduce(0, 1, 1));
        due(1, x.to(0, 1), x.count(4));
    }

    static void promise10AsWhatHeIsIsDoneToo() {
        NearlyKnown x = told("plain;plain;as 0 1 7");
        due(7, x.introduce(0, 1, 7));
        due(1, x.count(6));
    }

    static void promise10NobodyNeedsToBeInTheRoom() {
        NearlyKnown x = told("plain;plain;room 0");
        due(NONE, x.introduce(0, 1, 3));
        due(0, x.count(2));
    }

    // ---- 11 contradict

    static void promise11TheLeastAndTheGreatestRole() {
        NearlyKnown x = told(SIX + ";as 0 5 1;as 5 0 7");
        due(1, x.contradict(0, 5));
        due(7, x.contradict(5, 0));
        due(0, x.count(4));
    }

    static void promise11WhoIsNoRoleIsRefused() {
        refused(NOT, Boundary::busy, x -> x.contradict(0, 2), x -> x.contradict(2, 3));
        refused(NOT, () -> told("plain;plain;as 0 1 1"), x -> x.contradict(1, 0));
    }

    static void promise11TheSecondTimeIsRefused() {
        refused(NOT, () -> {
            NearlyKnown x = told("plain;plain;as 0 1 1");
            x.contradict(0, 1);
            return x;
        }, x -> x.contradict(0, 1));
    }

    static void promise11OneAndHimselfIsUnknown() {
        refused(UNKNOWN, Boundary::busy, x -> x.contradict(0, 0), x -> x.contradict(3, 3));
    }

    static void promise11WhoIsNotThereIsUnknown() {
        refused(UNKNOWN, Boundary::busy, x -> x.contradict(-1, 0), x -> x.contradict(0, -1), x -> x.contradict(4, 0),
                x -> x.contradict(0, 4), x -> x.contradict(LOW, 0), x -> x.contradict(0, HIGH));
    }

    // ---- 12 evening

    static void promise12AnEveningOfNobody() {
        NearlyKnown x = new NearlyKnown();
        due(0, x.evening());
        due(1, x.count(1), x.count(6));
    }

    static void promise12AnEveningInAnEmptyRoom() {
        NearlyKnown x = told("plain;plain;plain;as 0 1 1");
        due(0, x.evening());
        due(1, x.count(1), x.count(4));
    }

    static void promise12AnEveningAlone() {
        NearlyKnown x = told("plain;plain;plain;as 0 1 1;room 1");
        due(0, x.evening());
        due(1, x.count(4), x.count(2));
    }

    static void promise12WhoMustBeNothingTellsNothing() {
        NearlyKnown x = told("plain;plain;plain;room 7");
        due(0, x.evening(), x.count(4));
    }

    static void promise12TheLeastAndTheGreatestRoleAreLearnt() {
        NearlyKnown x = told("plain;plain;plain;as 0 1 1;as 1 0 7;room 7");
        x.evening();
        due(1, x.to(0, 2));
        due(7, x.to(1, 2));
        due(NONE, x.to(2, 0), x.to(2, 1));
    }

    static void promise12AllSixLearnAtOnce() {
        NearlyKnown x = told("plain;plain;plain;plain;plain;plain;as 0 1 1;as 1 2 2;as 2 3 3;as 3 4 4;as 4 5 5;as 5 0 6;room 63");
        x.evening();
        due(30, x.count(4));
        for (int p = 0; p < 6; p++) {
            due(63 & ~(1 << p), x.learn(p, p + 1, 0));
        }
    }

    static void promise12WhoIsSomethingElseToSomebodyThereTellsNothing() {
        NearlyKnown x = told("smooth;plain;plain;plain;as 0 1 1;as 0 2 2;room 15");
        due(0, x.evening());
        due(NONE, x.to(0, 3));
    }

    static void promise12AHostWithOneRoleTellsItWithTwoNone() {
        NearlyKnown x = told("host;plain;plain;plain;as 0 1 1;as 0 2 2;room 11");
        x.evening();
        due(1, x.to(0, 3));
        x = told("host;plain;plain;plain;as 0 1 1;as 0 2 2;room 15");
        x.evening();
        due(NONE, x.to(0, 3));
    }

    static void promise12WhoMustBeTwoTellsNothing() {
        NearlyKnown x = told("plain;plain;plain;plain;as 0 1 1;as 0 2 2;room 15");
        due(0, x.evening());
        due(NONE, x.to(0, 3));
        due(15, x.count(2));
    }

    static void promise12WhoIsNotInTheRoomNeitherTellsNorLearns() {
        NearlyKnown x = told("plain;plain;plain;plain;as 0 1 1;as 3 0 2;room 7");
        x.evening();
        due(1, x.to(0, 2));
        due(NONE, x.to(0, 3), x.to(3, 1), x.to(3, 2));
    }

    static void promise12WhatHeIsToWhoIsNotThereStays() {
        NearlyKnown x = told("plain;plain;plain;plain;as 0 1 1;as 0 3 5;room 7");
        x.evening();
        due(1, x.to(0, 2));
        due(5, x.to(0, 3));
    }

    static void promise12NobodyLearnsWhatOneIsToHimself() {
        NearlyKnown x = told("plain;plain;as 0 1 1;room 3");
        x.evening();
        due(1, x.person(0, 4), x.count(4));
        due(2, x.learn(0, 1, 0));
    }

    static void promise12AShyOneWithOneRoleStays() {
        NearlyKnown x = told("shy;plain;plain;as 0 1 1;as 0 2 1;room 7");
        due(0, x.evening());
        due(7, x.count(2));
    }

    static void promise12AShyOneWhoMustBeTwoLeaves() {
        NearlyKnown x = told("shy;plain;plain;as 0 1 1;as 0 2 2;room 7");
        due(1, x.evening());
        due(6, x.count(2));
    }

    static void promise12OnlyShyOnesLeave() {
        NearlyKnown x = told("plain;plain;plain;smooth;as 0 1 1;as 0 2 2;as 3 0 1;as 3 1 2;as 3 2 3;room 15");
        due(9, x.count(3));
        due(0, x.evening());
        due(15, x.count(2));
    }

    static void promise12AShyOneWhoIsNotInTheRoomDoesNotLeaveIt() {
        NearlyKnown x = told("shy;plain;plain;as 0 1 1;as 0 2 2;room 6");
        due(0, x.evening());
    }

    static void promise12ShyOnesLeaveByAllAsItWas() {
        // Were the first gone when the second is looked at, the second would be but one, and stay.
        NearlyKnown x = told("shy;shy;plain;as 0 1 1;as 0 2 2;as 1 0 1;as 1 2 2;room 7");
        due(3, x.evening());
        due(4, x.count(2));
    }

    static void promise12OthersLearnByAllAsItWas() {
        // The smooth one is two with the shy one there; just one role he must be from the next evening on.
        NearlyKnown x = told("shy;smooth;plain;plain;as 0 1 1;as 0 2 2;as 1 0 1;as 1 2 2;room 15");
        due(1, x.evening());
        due(NONE, x.to(1, 3));
        due(0, x.evening());
        due(2, x.to(1, 3));
    }

    static void promise12WhoLeavesHasLearntAheadOfIt() {
        NearlyKnown x = told("shy;plain;plain;as 0 1 1;as 0 2 2;as 1 2 5;room 7");
        due(1, x.evening());
        due(5, x.to(1, 0));
    }

    static void promise12AllSixMayLeave() {
        NearlyKnown x = told("shy;shy;shy;shy;shy;shy;room 63");
        for (int p = 0; p < 6; p++) {
            x.introduce(p, (p + 1) % 6, 1);
            x.introduce(p, (p + 2) % 6, 7);
        }
        due(63, x.evening());
        due(0, x.count(2), x.evening());
    }

    /** Beyond the calls for which an object is promised, but nowhere nearer can it be reached. */
    private static NearlyKnown afterEvenings(int n) {
        NearlyKnown x = told("plain;plain;plain;as 0 1 1;room 3");
        for (int i = 0; i < n; i++) {
            x.evening();
        }
        x.comes(2, 1);
        return x;
    }

    static void promise12Evening999IsReached() {
        NearlyKnown x = afterEvenings(998);
        due(0, x.evening());
        due(999, x.count(1), x.keep(0));
    }

    static void promise12BehindEvening999IsFull() {
        refused(FULL, () -> afterEvenings(999), NearlyKnown::evening);
    }

    static void promise12UndoneTheLastEveningMayBeAgain() {
        NearlyKnown x = afterEvenings(999);
        x.undo();
        x.undo();
        due(998, x.count(1));
        due(0, x.evening());
        due(FULL, x.evening());
    }

    // ---- 13 undo

    static void promise13NothingToUndoIsRefused() {
        refused(NOT, NearlyKnown::new, NearlyKnown::undo);
        refused(NOT, () -> told("plain;shy;room 3"), NearlyKnown::undo);
    }

    static void promise13TheOnlyOneLeavesNone() {
        NearlyKnown x = told("plain");
        x.comes(0, 1);
        due(0, x.undo(), x.count(6), x.count(2));
        due(NOT, x.undo());
    }

    static void promise13EightCanBeUndone() {
        NearlyKnown x = told("plain");
        for (int i = 1; i <= 8; i++) {
            x.evening();
            due(i, x.count(6));
        }
        for (int i = 7; i >= 0; i--) {
            due(i, x.undo(), x.count(1));
        }
        due(NOT, x.undo());
    }

    static void promise13TheNinthFromTheLastCannotBeUndone() {
        NearlyKnown x = told("plain");
        for (int i = 0; i < 9; i++) {
            x.evening();
        }
        due(8, x.count(6));
        for (int i = 7; i >= 0; i--) {
            due(i, x.undo());
        }
        due(1, x.count(1));
        due(NOT, x.undo());
        due(1, x.count(1));
    }

    static void promise13AroundAndAroundTheLastEightCanBeUndone() {
        NearlyKnown x = told("plain");
        int evening = 0;
        for (int round = 1; round <= 12; round++) {
            for (int i = 0; i < round; i++) {
                x.evening();
                evening++;
            }
            int most = Math.min(8, x.count(6));
            int back = Math.min(most, round / 2);
            for (int i = 1; i <= back; i++) {
                due(most - i, x.undo());
                evening--;
                due(evening, x.count(1));
            }
        }
    }

    static void promise13ComingAndGoingAreUndone() {
        NearlyKnown x = told("plain;plain;room 2");
        x.comes(0, 1);
        x.comes(1, 0);
        due(1, x.undo());
        due(3, x.count(2));
        due(0, x.undo());
        due(2, x.count(2));
    }

    static void promise13AnIntroductionIsUndone() {
        NearlyKnown x = told("plain;plain;as 0 1 7");
        x.introduce(0, 1, 2);
        x.introduce(1, 0, 2);
        x.undo();
        due(NONE, x.to(1, 0));
        x.undo();
        due(7, x.to(0, 1));
    }

    static void promise13AContradictionIsUndone() {
        NearlyKnown x = told("plain;plain;as 0 1 7");
        x.contradict(0, 1);
        x.undo();
        due(7, x.to(0, 1));
    }

    static void promise13AnEveningIsUndoneWithAllThatWasLearntAndWhoLeft() {
        NearlyKnown x = told("shy;plain;plain;as 0 1 1;as 0 2 2;as 1 2 5;room 7");
        List<Integer> before = stateOf(x);
        due(1, x.evening());
        due(0, x.undo());
        same(stateOf(x), before);
    }

    static void promise13WhatWasRefusedIsNotUndone() {
        NearlyKnown x = told("plain;plain;as 0 1 7;room 1");
        x.comes(0, 1);
        x.comes(2, 1);
        x.comes(0, 2);
        x.introduce(0, 0, 1);
        x.introduce(0, 1, 8);
        x.contradict(1, 0);
        x.contradict(1, 1);
        due(0, x.count(6));
        due(NOT, x.undo());
    }

    static void promise13OnlyWhatIsDoneIsUndone() {
        NearlyKnown x = told("plain;plain");
        x.comes(0, 1);
        x.seen(3, 0, 7);
        x.keep(0);
        x.write('x');
        x.forget();
        x.seen(3, 1, 7);
        due(0, x.undo(), x.count(2));
        due(1, x.count(5), x.count(7));
        due(0, x.back(0));
        due(1, x.count(2));
    }

    static void promise13WhatIsUndoneIsNotUndoneAgain() {
        NearlyKnown x = told("plain");
        x.comes(0, 1);
        x.undo();
        due(NOT, x.undo());
        due(0, x.count(2));
    }

    // ---- 14 keep

    static void promise14ThereAreTwoToKeep() {
        NearlyKnown x = told("plain");
        due(0, x.keep(0));
        x.evening();
        due(1, x.keep(1));
        due(0, x.back(0));
        due(1, x.back(1));
    }

    static void promise14KBelowZeroIsUnknown() {
        refused(UNKNOWN, Boundary::busy, x -> x.keep(-1), x -> x.keep(LOW));
    }

    static void promise14KAboveOneIsUnknown() {
        refused(UNKNOWN, Boundary::busy, x -> x.keep(2), x -> x.keep(HIGH));
    }

    static void promise14NobodyIsKeptToo() {
        NearlyKnown x = new NearlyKnown();
        due(0, x.keep(1));
        x.evening();
        due(0, x.back(1), x.count(1));
    }

    static void promise14TheLaterTakesThePlaceOfTheEarlier() {
        NearlyKnown x = told("plain");
        x.keep(0);
        x.evening();
        due(1, x.keep(0));
        x.evening();
        due(1, x.back(0));
    }

    static void promise14WhatIsDoneLaterIsNotKept() {
        NearlyKnown x = told("plain;plain;as 0 1 1;room 1");
        x.keep(0);
        List<Integer> kept = stateOf(x);
        x.comes(1, 1);
        x.introduce(1, 0, 7);
        x.contradict(0, 1);
        x.evening();
        due(0, x.back(0));
        same(stateOf(x), kept);
    }

    static void promise14WhatCanBeUndoneStaysSo() {
        NearlyKnown x = told("plain");
        x.comes(0, 1);
        x.keep(0);
        due(1, x.count(6));
        due(0, x.undo());
    }

    static void promise14KeepingChangesNothingNow() {
        NearlyKnown x = busy();
        x.keep(0);
        same(stateOf(x), stateOf(busy()));
    }

    // ---- 15 back

    static void promise15NothingKeptIsRefused() {
        refused(NOT, () -> write(told("plain;shy;room 3"), "host"), x -> x.back(0), x -> x.back(1));
        refused(NOT, NearlyKnown::new, x -> x.back(0), x -> x.back(1));
    }

    static void promise15TheOtherOneKeptDoesNotHelp() {
        NearlyKnown x = told("plain");
        x.keep(0);
        due(NOT, x.back(1));
        x = told("plain");
        x.keep(1);
        due(NOT, x.back(0));
    }

    static void promise15KBelowZeroIsUnknown() {
        refused(UNKNOWN, Boundary::busy, x -> x.back(-1), x -> x.back(LOW));
    }

    static void promise15KAboveOneIsUnknown() {
        refused(UNKNOWN, Boundary::busy, x -> x.back(2), x -> x.back(HIGH));
    }

    static void promise15UnknownComesAheadOfNot() {
        refused(UNKNOWN, NearlyKnown::new, x -> x.back(2), x -> x.back(-1));
    }

    static void promise15WhatWasKeptAheadOfTheLastTextIsGone() {
        refused(NOT, () -> {
            NearlyKnown x = told("plain;shy");
            x.keep(0);
            x.keep(1);
            return tell(x, "room 0");
        }, x -> x.back(0), x -> x.back(1));
    }

    static void promise15ARefusedTextLeavesWhatWasKept() {
        NearlyKnown x = told("plain");
        x.evening();
        x.keep(0);
        due(NOT, x.season());
        due(NOT, write(x, "x").season());
        due(1, x.back(0));
    }

    static void promise15KeptAgainBehindATextItIsThereAgain() {
        NearlyKnown x = told("plain");
        x.keep(0);
        tell(x, "shy");
        x.keep(0);
        due(0, x.back(0));
        due(2, x.count(0));
    }

    static void promise15NothingCanBeUndone() {
        NearlyKnown x = told("plain");
        x.comes(0, 1);
        x.keep(0);
        x.evening();
        x.back(0);
        due(0, x.count(6));
        due(NOT, x.undo());
        due(1, x.count(2));
    }

    static void promise15WhatIsDoneBehindItCanBeUndoneToIt() {
        NearlyKnown x = told("plain");
        x.evening();
        x.keep(0);
        x.evening();
        x.back(0);
        x.comes(0, 1);
        due(0, x.undo(), x.count(2));
        due(1, x.count(1));
    }

    static void promise15WhatIsSeenStays() {
        NearlyKnown x = told("plain;plain");
        x.seen(3, 0, 1);
        x.keep(0);
        x.seen(3, 0, 7);
        due(0, x.back(0));
        due(2, x.count(5));
        x.forget();
        x.back(0);
        due(0, x.count(5));
    }

    static void promise15TheTextThatIsBeingWrittenStays() {
        // The document does not say so in words: NOTES.md tells why it is read like this.
        NearlyKnown x = write(told("plain"), "sh");
        x.keep(0);
        x.write('y');
        x.back(0);
        due(3, x.count(7));
        due(NONE, x.fault());
    }

    static void promise15ItStaysKept() {
        NearlyKnown x = told("plain");
        x.comes(0, 1);
        x.keep(1);
        for (int i = 0; i < 3; i++) {
            x.comes(0, 0);
            due(0, x.back(1));
            due(1, x.count(2));
        }
    }

    static void promise15FromALaterEveningToAnEarlierAndForth() {
        NearlyKnown x = told("plain");
        x.keep(0);
        x.evening();
        x.evening();
        x.keep(1);
        due(0, x.back(0));
        due(2, x.back(1));
        due(2, x.count(1));
    }
}
