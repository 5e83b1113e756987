/** The edges of promises 24 to 28: the rules of rest, the driver's row, and what may be driven. */
public final class HourEdgesTest extends Edges {
    public static void main(String[] args) {
        run(HourEdgesTest.class);
    }

    /** A day with a row of pieces: kind, minutes, kind, minutes. */
    private static Couriersday row(int... pieces) {
        return day(d -> add(d, pieces));
    }

    private static void add(Couriersday d, int... pieces) {
        for (int i = 0; i < pieces.length; i += 2) {
            d.piece(pieces[i], pieces[i + 1]);
        }
    }

    private static void full(Couriersday d) {
        busy(d);
        for (int i = 4; i < 60; i++) {
            d.piece(WORK, 1);
        }
    }

    private static void unlawfulRow(Couriersday d) {
        busy(d);
        d.piece(DRIVE, 101);
    }

    // ---- 24: rules

    static void p24DriveFrom30To600() {
        refusedFor(ARGUMENT, Edges::busy, (d, n) -> d.rules(n, 45, 540), MIN, -1, 0, 29, 601, MAX);
        Couriersday d = new Couriersday();
        due(0, d.rules(30, 45, 540));
        due(30, d.mayDrive(false));
        due(0, d.rules(600, 45, 900));
        due(600, d.mayDrive(false));
        due(600, d.leastTime(600));
        due(646, d.leastTime(601));
    }

    static void p24RestFrom5To120() {
        refusedFor(ARGUMENT, Edges::busy, (d, n) -> d.rules(270, n, 540), MIN, -1, 0, 4, 121, MAX);
        Couriersday d = new Couriersday();
        due(0, d.rules(30, 5, 540));
        due(31 + 5, d.leastTime(31));
        due(0, d.rules(30, 120, 540));
        due(31 + 120, d.leastTime(31));
        add(d, DRIVE, 30, REST, 119);
        due(0, d.mayDrive(false));
        d.piece(REST, 1);
        due(30, d.mayDrive(false));
        d.rules(30, 5, 540);
        add(d, DRIVE, 30, REST, 4);
        due(0, d.mayDrive(false));
        d.piece(REST, 1);
        due(30, d.mayDrive(false));
    }

    static void p24AllFrom60To900() {
        refusedFor(ARGUMENT, Edges::busy, (d, n) -> d.rules(270, 45, n), MIN, -1, 0, 59, 901, MAX);
        Couriersday d = new Couriersday();
        due(0, d.rules(270, 45, 60));
        due(60, d.mayDrive(true));
        due(60, d.mayDrive(false));
        due(0, d.rules(270, 45, 900));
        due(900, d.mayDrive(true));
        due(900 + 3 * 45, d.leastTime(900));
    }

    static void p24FirstRules() {
        Couriersday d = new Couriersday();
        due(270, d.mayDrive(false));
        due(540, d.mayDrive(true));
        due(540 + 45, d.leastTime(540));
        due(NONE, d.leastTime(541));
    }

    static void p24HowManyPiecesTheRowHad() {
        Couriersday d = new Couriersday();
        due(0, d.rules(270, 45, 540));
        d.piece(WORK, 1);
        due(1, d.rules(270, 45, 540));
        due(0, d.rules(270, 45, 540));
        for (int i = 0; i < 60; i++) {
            d.piece(WORK, 1);
        }
        due(60, d.rules(270, 45, 540));
    }

    static void p24TheRowIsEmptyThen() {
        Couriersday d = row(DRIVE, 270, REST, 44);
        d.rules(270, 45, 540);
        due(540, d.mayDrive(true));
        due(270, d.mayDrive(false));
        due(600, d.piece(WORK, 600));
        // the rest that ended the row is gone
        d.rules(270, 45, 540);
        due(1, d.piece(REST, 1));
        d.piece(DRIVE, 270);
        due(0, d.mayDrive(false));
        d.rules(270, 45, 540);
        add(d, DRIVE, 270, REST, 44);
        d.rules(30, 45, 540);
        add(d, DRIVE, 30, REST, 1);
        due(0, d.mayDrive(false));
        due(1 + 44, d.leastTime(1));
        // one that was unlawful is so no more
        Couriersday e = row(DRIVE, 271);
        due(0, e.unlawful());
        e.rules(270, 45, 540);
        due(NONE, e.unlawful());
        due(270, e.mayDrive(false));
    }

    // ---- 25: piece

    static void p25KindsFrom0To2() {
        refusedFor(ARGUMENT, Edges::busy, (d, n) -> d.piece(n, 10), MIN, -1, 3, MAX);
        due(10, row().piece(0, 10));
        due(10, row().piece(1, 10));
        due(10, row().piece(2, 10));
    }

    static void p25MinutesFrom1To600() {
        for (int kind = DRIVE; kind <= REST; kind++) {
            int its = kind;
            refusedFor(ARGUMENT, Edges::busy, (d, n) -> d.piece(its, n), MIN, -1, 0, 601, MAX);
            due(1, row().piece(kind, 1));
            due(600, row().piece(kind, 600));
        }
    }

    static void p25AtMost60() {
        for (int kind = DRIVE; kind <= REST; kind++) {
            int its = kind;
            refused(STATE, HourEdgesTest::full, d -> d.piece(its, 1));
        }
        Couriersday d = new Couriersday();
        for (int i = 1; i <= 60; i++) {
            due(600 * i, d.piece(i % 3, 600));
        }
        due(60, d.rules(270, 45, 540));
        due(1, d.piece(DRIVE, 1));
        due(269, d.mayDrive(false));
    }

    static void p25TheExceptionListedFirst() {
        refused(ARGUMENT, HourEdgesTest::full, d -> d.piece(3, 1));
        refused(ARGUMENT, HourEdgesTest::full, d -> d.piece(DRIVE, 0));
        refused(ARGUMENT, HourEdgesTest::full, d -> d.piece(DRIVE, 601));
    }

    static void p25UnlawfulOnesAreAddedToo() {
        Couriersday d = row(DRIVE, 271);
        due(871, d.piece(DRIVE, 600));
        due(876, d.piece(REST, 5));
        due(3, d.rules(270, 45, 540));
    }

    // ---- 26: unlawful

    static void p26AnEmptyRowIsLawful() {
        due(NONE, row().unlawful());
        due(NONE, row(WORK, 600, REST, 600, WORK, 600).unlawful());
        asked(Edges::busy, d -> d.unlawful());
        asked(HourEdgesTest::unlawfulRow, d -> d.unlawful());
    }

    static void p26NoMoreThanSoManyMinutesWithoutARest() {
        due(NONE, row(DRIVE, 270).unlawful());
        due(0, row(DRIVE, 271).unlawful());
        due(NONE, row(DRIVE, 269, DRIVE, 1).unlawful());
        due(1, row(DRIVE, 270, DRIVE, 1).unlawful());
        due(1, row(DRIVE, 1, DRIVE, 270).unlawful());
        due(3, row(DRIVE, 135, WORK, 1, DRIVE, 135, DRIVE, 1).unlawful());
    }

    static void p26ARestIsOfSoManyMinutesOrMore() {
        due(NONE, row(DRIVE, 270, REST, 45, DRIVE, 270).unlawful());
        due(NONE, row(DRIVE, 270, REST, 46, DRIVE, 270).unlawful());
        due(NONE, row(DRIVE, 270, REST, 600, DRIVE, 270).unlawful());
        due(2, row(DRIVE, 270, REST, 44, DRIVE, 1).unlawful());
        // behind the rest all of the driving is new
        due(2, row(DRIVE, 1, REST, 45, DRIVE, 271).unlawful());
        due(NONE, row(DRIVE, 1, REST, 45, DRIVE, 270).unlawful());
        due(2, row(DRIVE, 1, REST, 44, DRIVE, 270).unlawful());
        // WORK is no rest
        due(2, row(DRIVE, 270, WORK, 600, DRIVE, 1).unlawful());
    }

    static void p26NoMoreDrivingInAll() {
        due(NONE, row(DRIVE, 270, REST, 45, DRIVE, 270, REST, 45, WORK, 600).unlawful());
        due(4, row(DRIVE, 270, REST, 45, DRIVE, 270, REST, 45, DRIVE, 1).unlawful());
        due(3, row(DRIVE, 200, REST, 45, DRIVE, 200, DRIVE, 141).unlawful());
        // a rest does not end it
        due(4, row(DRIVE, 270, REST, 600, DRIVE, 200, REST, 600, DRIVE, 71).unlawful());
        due(NONE, row(DRIVE, 270, REST, 600, DRIVE, 200, REST, 600, DRIVE, 70).unlawful());
        // both rules at once, or the one ahead of the other
        Couriersday d = new Couriersday();
        d.rules(600, 5, 60);
        d.piece(DRIVE, 60);
        due(NONE, d.unlawful());
        d.piece(DRIVE, 1);
        due(1, d.unlawful());
    }

    static void p26DrivingCountsOverWorkAndShorterPiecesOfRest() {
        due(5, row(DRIVE, 90, WORK, 600, DRIVE, 90, REST, 44, DRIVE, 90, DRIVE, 1).unlawful());
        due(4, row(DRIVE, 270, REST, 44, WORK, 1, REST, 44, DRIVE, 1).unlawful());
        due(4, row(DRIVE, 200, REST, 44, DRIVE, 1, REST, 44, DRIVE, 70).unlawful());
        due(NONE, row(DRIVE, 200, REST, 44, DRIVE, 1, REST, 44, DRIVE, 69).unlawful());
    }

    static void p26PiecesOfRestOneBehindTheOtherAreOne() {
        due(NONE, row(DRIVE, 270, REST, 44, REST, 1, DRIVE, 270).unlawful());
        due(NONE, row(DRIVE, 270, REST, 15, REST, 15, REST, 15, DRIVE, 270).unlawful());
        due(4, row(DRIVE, 270, REST, 15, REST, 15, REST, 14, DRIVE, 1).unlawful());
        // parted by any other piece they are not
        due(4, row(DRIVE, 200, REST, 44, WORK, 1, REST, 1, DRIVE, 71).unlawful());
        due(4, row(DRIVE, 200, REST, 44, DRIVE, 1, REST, 1, DRIVE, 70).unlawful());
    }

    static void p26TheFirstPieceInWhichARuleIsNotKept() {
        due(0, row(DRIVE, 600, DRIVE, 600, REST, 600, DRIVE, 600).unlawful());
        due(1, row(WORK, 600, DRIVE, 271, REST, 45, DRIVE, 271).unlawful());
        Couriersday d = row(DRIVE, 270, DRIVE, 1);
        due(1, d.unlawful());
        d.piece(REST, 600);
        due(1, d.unlawful());
        d.piece(DRIVE, 600);
        due(1, d.unlawful());
        // the last of sixty
        Couriersday e = new Couriersday();
        for (int i = 0; i < 59; i++) {
            e.piece(i == 0 ? DRIVE : WORK, 270);
        }
        due(NONE, e.unlawful());
        e.piece(DRIVE, 1);
        due(59, e.unlawful());
    }

    // ---- 27: mayDrive

    static void p27WithoutAFurtherRest() {
        due(270, row().mayDrive(false));
        due(1, row(DRIVE, 269).mayDrive(false));
        due(0, row(DRIVE, 270).mayDrive(false));
        due(0, row(DRIVE, 270, REST, 44).mayDrive(false));
        due(270, row(DRIVE, 270, REST, 45).mayDrive(false));
        due(270, row(DRIVE, 270, REST, 44, REST, 1).mayDrive(false));
        due(70, row(DRIVE, 200, WORK, 600).mayDrive(false));
        due(270, row(DRIVE, 200, REST, 600, WORK, 1).mayDrive(false));
        asked(Edges::busy, d -> d.mayDrive(false));
    }

    static void p27WithAllRestsThatAreNeeded() {
        due(540, row().mayDrive(true));
        due(270, row(DRIVE, 270).mayDrive(true));
        due(1, row(DRIVE, 270, REST, 45, DRIVE, 269).mayDrive(true));
        due(0, row(DRIVE, 270, REST, 45, DRIVE, 270).mayDrive(true));
        due(0, row(DRIVE, 270, REST, 45, DRIVE, 270, REST, 600).mayDrive(true));
        asked(Edges::busy, d -> d.mayDrive(true));
    }

    static void p27NoMoreThanInAll() {
        // less is left in all than without a rest
        due(1, row(DRIVE, 270, REST, 45, DRIVE, 269, REST, 45).mayDrive(false));
        due(0, row(DRIVE, 270, REST, 45, DRIVE, 270, REST, 45).mayDrive(false));
        Couriersday d = new Couriersday();
        d.rules(600, 5, 60);
        due(60, d.mayDrive(false));
        due(60, d.mayDrive(true));
        d.piece(DRIVE, 60);
        due(0, d.mayDrive(false));
        due(0, d.mayDrive(true));
    }

    static void p27NothingIfTheRowIsNotLawful() {
        for (boolean isInAll : new boolean[] {false, true}) {
            due(0, row(DRIVE, 271).mayDrive(isInAll));
            due(0, row(DRIVE, 271, REST, 600).mayDrive(isInAll));
            Couriersday d = new Couriersday();
            d.rules(600, 5, 60);
            d.piece(DRIVE, 61);
            due(0, d.mayDrive(isInAll));
            d.piece(REST, 600);
            due(0, d.mayDrive(isInAll));
        }
    }

    // ---- 28: leastTime

    static void p28MinutesFrom0To900() {
        refusedFor(ARGUMENT, Edges::busy, (d, n) -> d.leastTime(n), MIN, -1, 901, MAX);
        refusedFor(ARGUMENT, HourEdgesTest::unlawfulRow, (d, n) -> d.leastTime(n), -1, 901);
        due(0, row().leastTime(0));
        due(NONE, row().leastTime(900));
        Couriersday d = new Couriersday();
        d.rules(600, 5, 900);
        due(900 + 5, d.leastTime(900));
        d.rules(30, 120, 900);
        due(900 + 29 * 120, d.leastTime(900));
        asked(Edges::busy, x -> x.leastTime(300));
    }

    static void p28NoneIfItCantBeDone() {
        due(585, row().leastTime(540));
        due(NONE, row().leastTime(541));
        due(1, row(DRIVE, 270, REST, 45, DRIVE, 269).leastTime(1));
        due(NONE, row(DRIVE, 270, REST, 45, DRIVE, 269).leastTime(2));
        due(0, row(DRIVE, 270, REST, 45, DRIVE, 270).leastTime(0));
        due(NONE, row(DRIVE, 270, REST, 45, DRIVE, 270).leastTime(1));
    }

    static void p28NoneIfTheRowIsNotLawful() {
        due(NONE, row(DRIVE, 271).leastTime(0));
        due(NONE, row(DRIVE, 271, REST, 600).leastTime(1));
        due(NONE, row(DRIVE, 271, REST, 600).leastTime(0));
    }

    static void p28ARestIsAddedOnlyWhenItIsNeeded() {
        due(269, row().leastTime(269));
        due(270, row().leastTime(270));
        due(271 + 45, row().leastTime(271));
        due(1, row(DRIVE, 269).leastTime(1));
        due(2 + 45, row(DRIVE, 269).leastTime(2));
        due(271 + 45, row(DRIVE, 269).leastTime(271));
        due(1 + 45, row(DRIVE, 270).leastTime(1));
        due(270 + 45, row(DRIVE, 270).leastTime(270));
        // two rests: the first 1, then 270, then the last of all
        Couriersday d = new Couriersday();
        d.rules(270, 45, 900);
        d.piece(DRIVE, 269);
        due(271 + 45, d.leastTime(271));
        due(272 + 90, d.leastTime(272));
        due(541 + 90, d.leastTime(541));
        due(542 + 135, d.leastTime(542));
        due(631 + 135, d.leastTime(631));
        due(NONE, d.leastTime(632));
    }

    static void p28WhatLacksOfAShortRestMakesARest() {
        due(1 + 1, row(DRIVE, 270, REST, 44).leastTime(1));
        due(270 + 1, row(DRIVE, 270, REST, 44).leastTime(270));
        due(1 + 44, row(DRIVE, 270, REST, 1).leastTime(1));
        due(1, row(DRIVE, 270, REST, 45).leastTime(1));
        due(1, row(DRIVE, 270, REST, 46).leastTime(1));
        // pieces of REST one behind the other are one, others part them
        due(1 + 5, row(DRIVE, 270, REST, 20, REST, 20).leastTime(1));
        due(1 + 25, row(DRIVE, 270, REST, 20, WORK, 1, REST, 20).leastTime(1));
        due(1 + 45, row(DRIVE, 270, REST, 44, WORK, 1).leastTime(1));
        due(0, row(DRIVE, 270, REST, 44).leastTime(0));
    }

    static void p28ALongerRestIsNoMoreThanARest() {
        due(271 + 45, row(REST, 45).leastTime(271));
        due(271 + 45, row(REST, 46).leastTime(271));
        due(271 + 45, row(DRIVE, 200, REST, 600).leastTime(271));
        due(340 + 45, row(DRIVE, 200, REST, 600, REST, 600).leastTime(340));
        due(271 + 45, row(REST, 44).leastTime(271));
        due(271 + 45, row(WORK, 600).leastTime(271));
    }

    static void p28NoRestIsEndedThatNeedNotBe() {
        due(70, row(DRIVE, 200, REST, 44).leastTime(70));
        due(71 + 1, row(DRIVE, 200, REST, 44).leastTime(71));
        due(270 + 1, row(DRIVE, 200, REST, 44).leastTime(270));
        // one full rest, or what lacks and a full one
        due(271 + 45, row(DRIVE, 200, REST, 44).leastTime(271));
        due(340 + 45, row(DRIVE, 200, REST, 44).leastTime(340));
        Couriersday d = new Couriersday();
        d.rules(100, 45, 900);
        add(d, DRIVE, 50, REST, 40);
        due(50, d.leastTime(50));
        due(51 + 5, d.leastTime(51));
        due(100 + 5, d.leastTime(100));
        due(101 + 45, d.leastTime(101));
        due(150 + 45, d.leastTime(150));
        due(151 + 5 + 45, d.leastTime(151));
        due(200 + 5 + 45, d.leastTime(200));
        due(201 + 90, d.leastTime(201));
    }
}
