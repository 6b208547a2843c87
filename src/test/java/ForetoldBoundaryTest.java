import java.util.function.ToIntFunction;

/** The boundary cases of what is foretold: promises 16 to 22. */
public final class ForetoldBoundaryTest extends Boundary {
    private static final int[] NO_SETS = {-1, LOW, HIGH, 16, 17, 31, 32, 1 << 30, -16};

    public static void main(String[] args) {
        run(ForetoldBoundaryTest.class, 16, 22);
    }

    private interface OfSet {
        int ask(NearlyKnown x, int company);
    }

    /** Of four PEOPLE these are no SETS. */
    private static void unknownSets(OfSet call) {
        for (int company : NO_SETS) {
            ToIntFunction<NearlyKnown> one = x -> call.ask(x, company);
            refused(UNKNOWN, Boundary::busy, one);
        }
    }

    /** 0 may be two by 1 and 2; 3 by 1 and 2, too. */
    private static NearlyKnown twoByTwo() {
        return told("plain;plain;plain;plain;as 0 1 1;as 0 2 2;as 3 1 1;as 3 2 2;room 9");
    }

    // ---- 16 clash

    static void promise16NobodyClashesInACompanyOfNobody() {
        due(0, strangers().clash(0));
    }

    static void promise16NobodyClashesAloneOrByTwos() {
        NearlyKnown x = strangers();
        for (int p = 0; p < 6; p++) {
            due(0, x.clash(1 << p));
            for (int o = 0; o < 6; o++) {
                due(0, x.clash(1 << p | 1 << o));
            }
        }
    }

    static void promise16AllSixMayClash() {
        due(63, strangers().clash(63));
    }

    static void promise16WhoIsNotOfItDoesNotClash() {
        NearlyKnown x = twoByTwo();
        due(1, x.clash(7));
        due(8, x.clash(14));
        due(9, x.clash(15));
        due(0, x.clash(6));
    }

    static void promise16TheRoomDoesNotMatter() {
        NearlyKnown x = twoByTwo();
        due(0, x.count(3));
        due(9, x.clash(15));
        x.comes(1, 1);
        x.comes(2, 1);
        due(0, x.clash(9));
    }

    static void promise16ASetWithNoSuchPersonIsUnknown() {
        unknownSets(NearlyKnown::clash);
        refused(UNKNOWN, () -> told(SIX), x -> x.clash(64), x -> x.clash(127));
    }

    static void promise16NothingChanges() {
        changesNothing(Boundary::busy, x -> x.clash(15), x -> x.clash(0));
    }

    // ---- 17 rooms

    static void promise17NobodyNeedsNoRoom() {
        due(0, strangers().rooms(0, NONE));
    }

    static void promise17OneNeedsOneRoom() {
        NearlyKnown x = strangers();
        due(1, x.rooms(1, NONE), x.rooms(32, NONE));
        due(0, x.rooms(1, 0), x.rooms(32, 5));
    }

    static void promise17TwoNeedOneRoom() {
        NearlyKnown x = strangers();
        due(1, x.rooms(33, NONE));
        due(0, x.rooms(33, 0), x.rooms(33, 5));
    }

    static void promise17AllMayBeInOne() {
        NearlyKnown x = told(SIX);
        due(1, x.rooms(63, NONE));
        for (int p = 0; p < 6; p++) {
            due(0, x.rooms(63, p));
        }
    }

    static void promise17ThreeAreTheMostThatSixNeed() {
        NearlyKnown x = strangers();
        due(3, x.rooms(63, NONE));
        for (int p = 0; p < 6; p++) {
            due(p / 2, x.rooms(63, p));
        }
    }

    static void promise17WhoIsNotOfItIsInNone() {
        NearlyKnown x = strangers();
        due(NONE, x.rooms(62, 0), x.rooms(31, 5), x.rooms(0, 0), x.rooms(0, 5));
    }

    static void promise17OfSeveralWaysTheFirst() {
        NearlyKnown x = twoByTwo();
        due(2, x.rooms(15, NONE));
        int[] first = {0, 0, 1, 0};
        for (int p = 0; p < 4; p++) {
            due(first[p], x.rooms(15, p));
        }
    }

    static void promise17TheFirstOfItIsInRoomZeroThoughLesserOnesAreNotOfIt() {
        NearlyKnown x = strangers();
        int[] first = {NONE, NONE, 0, 0, 1, 1};
        due(2, x.rooms(60, NONE));
        for (int p = 0; p < 6; p++) {
            due(first[p], x.rooms(60, p));
        }
    }

    static void promise17FewestComesAheadOfTheLesserRoom() {
        // 0 and 1 could share room 0, but then none of 2, 3 and 4 could, and those three can not share one.
        NearlyKnown x = told("plain;plain;plain;plain;plain;as 0 1 1;as 0 2 2;as 0 3 2;as 0 4 2;as 2 3 1;as 2 4 2");
        due(2, x.rooms(31, NONE));
        int[] first = {0, 1, 0, 0, 1};
        for (int p = 0; p < 5; p++) {
            due(first[p], x.rooms(31, p));
        }
    }

    static void promise17NoCompanyHangsOnTheOneAskedAhead() {
        NearlyKnown x = strangers();
        due(3, x.rooms(63, NONE));
        due(1, x.rooms(48, NONE), x.rooms(12, NONE), x.rooms(3, NONE));
        due(NONE, x.rooms(48, 0), x.rooms(12, 4));
        due(0, x.rooms(48, 5), x.rooms(0, NONE));
        due(2, x.rooms(63, 5), x.rooms(15, NONE));
    }

    static void promise17ACompanyWithNoSuchPersonIsUnknown() {
        unknownSets((x, company) -> x.rooms(company, NONE));
        unknownSets((x, company) -> x.rooms(company, 0));
    }

    static void promise17WhoIsNotThereIsUnknown() {
        refused(UNKNOWN, Boundary::busy, x -> x.rooms(15, -2), x -> x.rooms(15, 4), x -> x.rooms(0, 4), x -> x.rooms(15, LOW),
                x -> x.rooms(15, HIGH), x -> x.rooms(1, 32));
    }

    static void promise17NothingChanges() {
        changesNothing(Boundary::busy, x -> x.rooms(15, NONE), x -> x.rooms(15, 3), x -> x.rooms(0, 3));
    }

    // ---- 18 largest

    static void promise18OfNobodyIsNobody() {
        due(0, strangers().largest(0));
    }

    static void promise18OneAloneIsHimself() {
        due(1, strangers().largest(1));
        due(32, strangers().largest(32));
    }

    static void promise18AllOfItMayBe() {
        due(63, told(SIX).largest(63));
        due(42, told(SIX).largest(42));
    }

    static void promise18OfSeveralTheLeast() {
        NearlyKnown x = strangers();
        due(3, x.largest(63));
        due(12, x.largest(60));
        due(33, x.largest(33));
        due(18, x.largest(50));
    }

    static void promise18MoreComesAheadOfLess() {
        due(11, twoByTwo().largest(15));
        // The least of three is not the answer, where four can be.
        NearlyKnown x = told("plain;plain;plain;plain;plain;as 0 1 1;as 0 2 2;as 0 3 3;as 0 4 4");
        due(30, x.largest(31));
    }

    static void promise18ASetWithNoSuchPersonIsUnknown() {
        unknownSets(NearlyKnown::largest);
    }

    static void promise18NothingChanges() {
        changesNothing(Boundary::busy, x -> x.largest(15), x -> x.largest(0));
    }

    // ---- 19 smallest

    static void promise19OfNobodyIsNone() {
        due(NONE, strangers().smallest(0));
    }

    static void promise19OfOneOrTwoIsNone() {
        NearlyKnown x = strangers();
        due(NONE, x.smallest(1), x.smallest(32), x.smallest(3), x.smallest(33));
    }

    static void promise19IsNoneIfNobodyMustBeTwo() {
        due(NONE, told(SIX).smallest(63), twoByTwo().smallest(9));
    }

    static void promise19AllOfItMayBe() {
        due(15, told("smooth;plain;plain;plain;as 0 1 1;as 0 2 2;as 0 3 3").smallest(15));
        due(56, strangers().smallest(56));
    }

    static void promise19OfSeveralTheLeast() {
        NearlyKnown x = strangers();
        due(7, x.smallest(63));
        due(28, x.smallest(60));
        due(7, twoByTwo().smallest(15));
    }

    static void promise19FewerComesAheadOfLess() {
        NearlyKnown x = told("smooth;plain;plain;plain;plain;plain;as 0 1 1;as 0 2 2;as 0 3 3;as 5 3 1;as 5 4 2");
        due(56, x.smallest(63));
        due(15, x.smallest(31));
    }

    static void promise19ASetWithNoSuchPersonIsUnknown() {
        unknownSets(NearlyKnown::smallest);
    }

    static void promise19NothingChanges() {
        changesNothing(Boundary::busy, x -> x.smallest(15), x -> x.smallest(0));
    }

    // ---- 20 may

    static void promise20AllSevenRolesMayBe() {
        due(254, told("plain;plain").may(0, 1), told(SIX + ";room 63").may(5, 0));
    }

    static void promise20TheLeastAndTheGreatestRoleAloneMayBe() {
        due(1 << 1, told("plain;plain;plain;as 0 1 1;room 3").may(0, 2));
        due(1 << 7, told("plain;plain;plain;as 0 1 7;room 3").may(0, 2));
    }

    static void promise20NoneMayBeIfSomebodyElseMustBeTwo() {
        due(0, told("plain;plain;plain;plain;plain;as 0 1 1;as 0 2 2;room 7").may(3, 4));
    }

    static void promise20NoneMayBeIfTheNewcomerMakesSomebodyTwo() {
        // 1 is another one to 2 than to 0, whatever 0 is introduced as.
        due(0, told("plain;plain;plain;as 1 0 1;as 1 2 2;room 3").may(0, 2));
    }

    static void promise20InPlaceOfWhatHeIsToHim() {
        NearlyKnown x = told("plain;plain;plain;as 0 1 1;as 0 2 2;room 7");
        due(1 << 2, x.may(0, 1));
        due(1 << 1, x.may(0, 2));
    }

    static void promise20BothAreInTheRoomThen() {
        // Neither is there now: 0 is told to 1, who is not there, as a role; 2 is in the room.
        NearlyKnown x = told("plain;plain;plain;as 0 2 5;room 4");
        due(1 << 5, x.may(0, 1));
        due(254, x.may(1, 0));
        x.introduce(1, 2, 4);
        due(1 << 4, x.may(1, 0));
    }

    static void promise20WhoIsNotInTheRoomDoesNotMatter() {
        due(254, told("plain;plain;plain;as 0 2 5;room 0").may(0, 1));
    }

    static void promise20ASmoothOneMayBeAThirdButNoFourth() {
        due(254, told("smooth;plain;plain;as 0 1 1;room 3").may(0, 2));
        due(6, told("smooth;plain;plain;plain;as 0 1 1;as 0 2 2;room 7").may(0, 3));
    }

    static void promise20AHostMayBeAll() {
        due(254, told("host;plain;plain;plain;as 0 1 1;as 0 2 2;room 7").may(0, 3));
    }

    static void promise20OneAndHimselfIsUnknown() {
        refused(UNKNOWN, Boundary::busy, x -> x.may(0, 0), x -> x.may(3, 3));
    }

    static void promise20WhoIsNotThereIsUnknown() {
        refused(UNKNOWN, Boundary::busy, x -> x.may(-1, 0), x -> x.may(0, -1), x -> x.may(4, 0), x -> x.may(0, 4),
                x -> x.may(LOW, 0), x -> x.may(0, HIGH));
    }

    static void promise20NothingChanges() {
        changesNothing(Boundary::busy, x -> x.may(0, 1), x -> x.may(3, 2));
    }

    // ---- 21 learn

    static void promise21OfNoEveningIsNow() {
        NearlyKnown x = told("plain;plain;plain;as 0 1 7;room 7");
        due(2, x.learn(0, 7, 0));
        due(6, x.learn(0, 7, 1));
    }

    static void promise21OfTwentyEveningsIsTold() {
        due(6, told("plain;plain;plain;as 0 1 7;room 7").learn(0, 7, 20));
    }

    static void promise21BelowNoEveningIsOutside() {
        refused(OUTSIDE, Boundary::busy, x -> x.learn(0, 1, -1), x -> x.learn(0, 1, LOW));
    }

    static void promise21AboveTwentyEveningsIsOutside() {
        refused(OUTSIDE, Boundary::busy, x -> x.learn(0, 1, 21), x -> x.learn(0, 1, HIGH));
    }

    static void promise21TheLeastAndTheGreatestRoleAreTold() {
        NearlyKnown x = told("plain;plain;as 0 1 1;as 1 0 7");
        due(2, x.learn(0, 1, 0));
        due(1, x.learn(1, 7, 0));
    }

    static void promise21RoleZeroIsOutside() {
        refused(OUTSIDE, Boundary::busy, x -> x.learn(0, 0, 1), x -> x.learn(0, -1, 1), x -> x.learn(0, LOW, 0));
    }

    static void promise21RoleEightIsOutside() {
        refused(OUTSIDE, Boundary::busy, x -> x.learn(0, 8, 1), x -> x.learn(0, HIGH, 0));
    }

    static void promise21WhoIsNotThereIsUnknown() {
        refused(UNKNOWN, Boundary::busy, x -> x.learn(-1, 1, 1), x -> x.learn(4, 1, 1), x -> x.learn(LOW, 1, 0),
                x -> x.learn(HIGH, 1, 0));
    }

    static void promise21UnknownComesAheadOfOutside() {
        refused(UNKNOWN, Boundary::busy, x -> x.learn(-1, 0, 1), x -> x.learn(4, 1, 21), x -> x.learn(4, 8, -1));
    }

    static void promise21ToNobodyAndToAllFive() {
        NearlyKnown x = told("plain;plain;plain;plain;plain;plain;as 0 1 3;room 63");
        due(0, x.learn(0, 4, 20), x.learn(1, 3, 20));
        due(62, x.learn(0, 3, 1));
    }

    static void promise21OfSixEachIsAnotherRoleToEach() {
        NearlyKnown x = strangers();
        for (int p = 0; p < 6; p++) {
            for (int role = 1; role <= 7; role++) {
                due(role == 7 || role - 1 == p ? 0 : 1 << role - 1, x.learn(p, role, 0), x.learn(p, role, 1));
            }
        }
    }

    static void promise21ShyOnesLeaveInItToo() {
        // 3 must be just one only when the shy 0 has left, and is told to 4 an evening later.
        NearlyKnown x = told("shy;plain;plain;smooth;plain;as 0 1 1;as 0 2 2;as 3 0 1;as 3 1 2;room 31");
        due(2, x.learn(3, 2, 1));
        due(22, x.learn(3, 2, 2));
    }

    static void promise21NothingChanges() {
        changesNothing(Boundary::busy, x -> x.learn(0, 3, 0), x -> x.learn(2, 1, 1), x -> x.learn(1, 3, 20));
    }

    // ---- 22 stays

    private static NearlyKnown twoShyOnes() {
        // 0 leaves the first evening; 3, who must be but one, is that to all then, and stays.
        return told("shy;plain;plain;shy;as 0 1 1;as 0 2 2;as 3 1 1;room 15");
    }

    static void promise22OfNoEveningIsNow() {
        due(15, twoShyOnes().stays(0));
    }

    static void promise22OfOneEvening() {
        due(14, twoShyOnes().stays(1));
    }

    static void promise22OfTwentyEveningsIsTold() {
        due(14, twoShyOnes().stays(20));
    }

    static void promise22BelowNoEveningIsOutside() {
        refused(OUTSIDE, Boundary::busy, x -> x.stays(-1), x -> x.stays(LOW));
    }

    static void promise22AboveTwentyEveningsIsOutside() {
        refused(OUTSIDE, Boundary::busy, x -> x.stays(21), x -> x.stays(HIGH));
    }

    static void promise22OfNobodyIsNobody() {
        due(0, new NearlyKnown().stays(0), new NearlyKnown().stays(20), told(SIX).stays(20));
    }

    static void promise22AllSixMayStay() {
        due(63, told(SIX + ";room 63").stays(20));
    }

    static void promise22NothingChanges() {
        changesNothing(Boundary::busy, x -> x.stays(0), x -> x.stays(1), x -> x.stays(20));
        changesNothing(ForetoldBoundaryTest::twoShyOnes, x -> x.stays(1));
    }
}
