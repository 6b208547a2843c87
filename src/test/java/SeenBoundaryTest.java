/** The boundary cases of what was seen: promises 23 to 27. */
public final class SeenBoundaryTest extends Boundary {
    public static void main(String[] args) {
        run(SeenBoundaryTest.class, 23, 27);
    }

    private static NearlyKnown sixSeen() {
        NearlyKnown x = busy();
        x.forget();
        for (int i = 0; i < 6; i++) {
            x.seen(3, 0, 3);
        }
        return x;
    }

    // ---- 23 seen

    static void promise23TheSixthIsTaken() {
        NearlyKnown x = told("plain;plain");
        for (int i = 1; i <= 6; i++) {
            due(i, x.seen(3, 0, 1), x.count(5));
        }
    }

    static void promise23TheSeventhIsFull() {
        refused(FULL, SeenBoundaryTest::sixSeen, x -> x.seen(3, 0, 3), x -> x.seen(3, 1, 7), x -> x.seen(15, 3, 0));
    }

    static void promise23OutsideComesAheadOfFull() {
        refused(OUTSIDE, SeenBoundaryTest::sixSeen, x -> x.seen(3, 0, -1), x -> x.seen(3, 0, 8));
    }

    static void promise23UnknownComesAheadOfFull() {
        refused(UNKNOWN, SeenBoundaryTest::sixSeen, x -> x.seen(3, 2, 1), x -> x.seen(16, 0, 1));
    }

    static void promise23ForgottenThereIsPlaceForSixAgain() {
        NearlyKnown x = sixSeen();
        x.forget();
        for (int i = 1; i <= 6; i++) {
            due(i, x.seen(3, 0, 1));
        }
        due(FULL, x.seen(3, 0, 1));
    }

    static void promise23RolesZeroAndSevenAreTaken() {
        NearlyKnown x = told("plain;plain");
        due(1, x.seen(3, 0, 0));
        due(2, x.seen(3, 0, 7));
    }

    static void promise23RoleBelowZeroIsOutside() {
        refused(OUTSIDE, Boundary::busy, x -> x.seen(3, 0, -1), x -> x.seen(3, 0, LOW));
    }

    static void promise23RoleEightIsOutside() {
        refused(OUTSIDE, Boundary::busy, x -> x.seen(3, 0, 8), x -> x.seen(3, 0, HIGH));
    }

    static void promise23WhoIsNotOfTheCompanyIsUnknown() {
        refused(UNKNOWN, Boundary::busy, x -> x.seen(2, 0, 1), x -> x.seen(7, 3, 1), x -> x.seen(0, 0, 1));
    }

    static void promise23WhoIsNotThereIsUnknown() {
        refused(UNKNOWN, Boundary::busy, x -> x.seen(15, -1, 1), x -> x.seen(15, 4, 1), x -> x.seen(15, LOW, 1),
                x -> x.seen(15, HIGH, 1), x -> x.seen(15, 32, 1));
    }

    static void promise23ASetWithNoSuchPersonIsUnknown() {
        refused(UNKNOWN, Boundary::busy, x -> x.seen(16, 0, 1), x -> x.seen(17, 0, 1), x -> x.seen(-1, 0, 1),
                x -> x.seen(LOW, 0, 1), x -> x.seen(HIGH, 0, 1));
    }

    static void promise23UnknownComesAheadOfOutside() {
        refused(UNKNOWN, Boundary::busy, x -> x.seen(2, 0, 8), x -> x.seen(16, 0, -1), x -> x.seen(15, 4, 8));
    }

    static void promise23AloneOneMayBeSeen() {
        NearlyKnown x = told("plain;plain;as 0 1 1");
        due(1, x.seen(1, 0, 1));
        due(0, x.was(0, 1));
    }

    static void promise23WhatIsNotSoMayBeSeen() {
        NearlyKnown x = told("plain;plain;as 0 1 1;room 0");
        due(1, x.seen(3, 0, 7));
        due(1, x.to(0, 1));
        due(0, x.count(2), x.count(6));
    }

    // ---- 24 forget

    static void promise24NothingSeenIsZero() {
        due(0, new NearlyKnown().forget(), told("plain").forget());
    }

    static void promise24AllSixAreForgotten() {
        NearlyKnown x = sixSeen();
        due(6, x.forget());
        due(0, x.count(5), x.forget());
        due(255, x.was(0, 1), x.was(3, 2));
    }

    static void promise24OnlyWhatIsSeenIsForgotten() {
        NearlyKnown x = busy();
        due(2, x.forget());
        x.seen(3, 0, 3);
        x.seen(5, 2, 1);
        same(stateOf(x), stateOf(busy()));
        changesNothing(() -> {
            NearlyKnown y = busy();
            y.forget();
            return y;
        }, NearlyKnown::forget);
    }

    // ---- 25 was

    static void promise25IfNothingIsSeenAllMayBe() {
        due(255, told("plain;plain;as 0 1 1").was(0, 1), told(SIX).was(5, 0));
    }

    static void promise25NoneAloneMayBe() {
        NearlyKnown x = told("plain;plain;plain;as 0 1 3;as 0 2 4");
        x.seen(7, 0, 4);
        due(1 | 1 << 4, x.was(0, 1));
        x.seen(7, 1, 1);
        due(0, x.was(0, 1));
        x.forget();
        x.seen(7, 0, 3);
        due(1 | 1 << 3, x.was(0, 2));
    }

    static void promise25TheLeastAndTheGreatestRoleMayBe() {
        NearlyKnown x = told("plain;plain");
        x.seen(3, 0, 1);
        due(1 << 1, x.was(0, 1));
        x.forget();
        x.seen(3, 0, 7);
        due(1 << 7, x.was(0, 1));
    }

    static void promise25AllThatIsSeenMustBeSo() {
        NearlyKnown x = told("plain;plain");
        x.seen(3, 0, 1);
        x.seen(3, 0, 2);
        due(0, x.was(0, 1));
    }

    static void promise25TheSixthThatIsSeenCounts() {
        NearlyKnown x = told("plain;plain");
        for (int i = 0; i < 5; i++) {
            x.seen(3, 0, 1);
        }
        due(2, x.was(0, 1));
        x.seen(3, 0, 2);
        due(0, x.was(0, 1));
    }

    static void promise25TheFirstAndTheSixthPersonMayBeSeen() {
        NearlyKnown x = told(SIX);
        x.seen(33, 0, 1);
        x.seen(63, 5, 7);
        due(0, x.was(0, 5), x.was(5, 0));
        x.introduce(5, 4, 7);
        due(1 << 1, x.was(0, 5));
        x.introduce(0, 5, 1);
        due(1 | 1 << 7, x.was(5, 0));
    }

    static void promise25NoneBesidesIsSeen() {
        NearlyKnown x = told("host;plain;plain;as 0 1 1;as 0 2 2");
        x.seen(7, 0, 1);
        due(0, x.was(0, 1));
        due(1 | 1 << 1, x.was(0, 2));
    }

    static void promise25TwoIsMoreThanOneWhateverHeBears() {
        for (String kind : new String[] {"plain", "smooth", "shy", "host"}) {
            NearlyKnown x = told(kind + ";plain;plain;as 0 2 4");
            x.seen(7, 0, 0);
            due(254 & ~(1 << 4), x.was(0, 1));
        }
    }

    static void promise25ThreeRolesAreMoreThanOneToo() {
        NearlyKnown x = told("host;plain;plain;plain;as 0 1 1;as 0 2 2;as 0 3 3");
        x.seen(15, 0, 0);
        due(255, x.was(0, 3));
    }

    static void promise25WhoIsNotOfTheCompanyIsNotSeen() {
        NearlyKnown x = told("plain;plain;plain;as 0 1 1");
        x.seen(3, 0, 1);
        due(255, x.was(0, 2), x.was(2, 0), x.was(1, 0));
    }

    static void promise25ItGoesByWhatIsNow() {
        NearlyKnown x = told("plain;plain;plain;as 0 2 4");
        x.seen(7, 0, 4);
        due(1 | 1 << 4, x.was(0, 1));
        x.introduce(0, 2, 5);
        due(0, x.was(0, 1));
        x.undo();
        due(1 | 1 << 4, x.was(0, 1));
    }

    static void promise25OneAndHimselfIsUnknown() {
        refused(UNKNOWN, Boundary::busy, x -> x.was(0, 0), x -> x.was(3, 3));
    }

    static void promise25WhoIsNotThereIsUnknown() {
        refused(UNKNOWN, Boundary::busy, x -> x.was(-1, 0), x -> x.was(0, -1), x -> x.was(4, 0), x -> x.was(0, 4),
                x -> x.was(LOW, 0), x -> x.was(0, HIGH));
    }

    static void promise25AskingChangesNothing() {
        changesNothing(Boundary::busy, x -> x.was(0, 1), x -> x.was(3, 2));
    }

    // ---- 26 chance

    private static void odds(int above, int below, NearlyKnown x, int company, int q) {
        due(above, x.chance(company, q, 0));
        due(below, x.chance(company, q, 1));
    }

    static void promise26OfNobodyItIsCertain() {
        for (int q = 0; q <= 10; q++) {
            odds(1, 1, strangers(), 0, q);
        }
    }

    static void promise26OfOneOrTwoItIsCertain() {
        for (int q = 0; q <= 10; q++) {
            odds(1, 1, strangers(), 32, q);
            odds(1, 1, strangers(), 33, q);
        }
    }

    static void promise26IfNobodyComesItIsCertain() {
        odds(1, 1, strangers(), 63, 0);
    }

    static void promise26IfAllComeItIsImpossible() {
        odds(0, 1, strangers(), 63, 10);
    }

    static void promise26IfAllComeAndNobodyIsTwoItIsCertain() {
        odds(1, 1, told(SIX), 63, 10);
    }

    static void promise26OneOfTenAndNineOfTen() {
        // At most two of six: q 1: 531441 + 6 * 59049 + 15 * 6561; q 9: 1 + 6 * 9 + 15 * 81 of a million.
        odds(19683, 20000, strangers(), 63, 1);
        odds(127, 100000, strangers(), 63, 9);
    }

    static void promise26PartsAreInLowestTerms() {
        odds(11, 32, strangers(), 63, 5);
        odds(7, 8, strangers(), 7, 5);
        odds(11, 16, strangers(), 15, 5);
    }

    static void promise26QBelowZeroIsOutside() {
        refused(OUTSIDE, Boundary::busy, x -> x.chance(15, -1, 0), x -> x.chance(0, LOW, 1));
    }

    static void promise26QAboveTenIsOutside() {
        refused(OUTSIDE, Boundary::busy, x -> x.chance(15, 11, 0), x -> x.chance(0, HIGH, 1));
    }

    static void promise26PartBelowZeroIsOutside() {
        refused(OUTSIDE, Boundary::busy, x -> x.chance(15, 5, -1), x -> x.chance(0, 5, LOW));
    }

    static void promise26PartAboveOneIsOutside() {
        refused(OUTSIDE, Boundary::busy, x -> x.chance(15, 5, 2), x -> x.chance(0, 5, HIGH));
    }

    static void promise26ASetWithNoSuchPersonIsUnknown() {
        refused(UNKNOWN, Boundary::busy, x -> x.chance(16, 5, 0), x -> x.chance(17, 5, 1), x -> x.chance(-1, 5, 0),
                x -> x.chance(LOW, 5, 0), x -> x.chance(HIGH, 5, 0));
    }

    static void promise26UnknownComesAheadOfOutside() {
        refused(UNKNOWN, Boundary::busy, x -> x.chance(16, 11, 0), x -> x.chance(-1, 5, 2), x -> x.chance(16, -1, -1));
    }

    static void promise26AskingChangesNothing() {
        changesNothing(Boundary::busy, x -> x.chance(15, 5, 0), x -> x.chance(15, 10, 1));
    }

    // ---- 27 count

    static void promise27PeopleFromNoneToSix() {
        NearlyKnown x = new NearlyKnown();
        for (int n = 0; n < 6; n++) {
            due(n, x.count(0));
            tell(x, "shy");
        }
        due(6, x.count(0));
    }

    static void promise27TheEveningIsTold() {
        NearlyKnown x = told("plain");
        for (int n = 0; n < 250; n++) {
            due(n, x.count(1));
            x.evening();
        }
    }

    static void promise27TheRoomFromNobodyToAllSix() {
        due(0, told(SIX).count(2));
        due(63, told(SIX + ";room 63").count(2));
    }

    static void promise27WhoMustBeTwoFromNobodyToAllSix() {
        due(63, strangers().count(3));
        NearlyKnown x = strangers();
        for (int p = 2; p < 6; p++) {
            x.comes(p, 0);
        }
        due(0, x.count(3));
    }

    static void promise27RolesFromNoneTo30() {
        due(0, told(SIX).count(4));
        due(30, strangers().count(4));
    }

    static void promise27SeenFromNoneToSix() {
        due(0, told(SIX).count(5));
        due(6, sixSeen().count(5));
    }

    static void promise27ToBeUndoneFromNoneToEight() {
        due(0, told(SIX).count(6));
        due(8, strangers().count(6));
    }

    static void promise27LettersFromNoneTo160() {
        due(0, told(SIX).count(7));
        due(159, write(told(SIX), "x".repeat(159)).count(7));
        due(160, write(told(SIX), "x".repeat(170)).count(7));
    }

    static void promise27WhatBelowZeroIsOutside() {
        refused(OUTSIDE, Boundary::busy, x -> x.count(-1), x -> x.count(LOW));
    }

    static void promise27WhatAboveSevenIsOutside() {
        refused(OUTSIDE, Boundary::busy, x -> x.count(8), x -> x.count(HIGH));
    }

    static void promise27AskingChangesNothing() {
        changesNothing(Boundary::busy, x -> x.count(0), x -> x.count(3), x -> x.count(7));
    }
}
