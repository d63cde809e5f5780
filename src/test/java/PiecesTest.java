/** Promises 3, 4, 5, 9, 10 and 11: pieces, pace, and what a step takes, needs and gives. */
public final class PiecesTest {
    private static final Check CHECK = new Check("PiecesTest");

    public static void main(String[] args) {
        pieceRefused();
        fifteenthPiece();
        dropping();
        pacing();
        minutesOfSteps();
        canBeDone();
        doing();
        CHECK.end();
    }

    private static WhatToRead topics() {
        WhatToRead x = new WhatToRead();
        x.topic(3, 0);
        x.topic(2, 1);
        x.topic(5, 2);
        x.topic(1, 0);
        return x;
    }

    private static void pieceRefused() {
        WhatToRead x = topics();
        CHECK.same("3 needs 16", x.piece(16, 0, 1, 0, 1), -1);
        CHECK.same("3 needs -1", x.piece(-1, 0, 1, 0, 1), -1);
        CHECK.same("3 either 16", x.piece(0, 16, 1, 0, 1), -1);
        CHECK.same("3 either -1", x.piece(0, -1, 1, 0, 1), -1);
        CHECK.same("3 gives 16", x.piece(0, 0, 16, 0, 1), -1);
        CHECK.same("3 gives 17", x.piece(0, 0, 17, 1, 1), -1);
        CHECK.same("3 gives -1", x.piece(0, 0, -1, 0, 1), -1);
        CHECK.same("3 gives 0", x.piece(0, 0, 0, 0, 1), -1);
        CHECK.same("3 skim 2 of 1", x.piece(0, 0, 1, 2, 1), -1);
        CHECK.same("3 skim 3 of 1", x.piece(0, 0, 1, 3, 1), -1);
        CHECK.same("3 skim of what gives implies", x.piece(0, 0, 2, 1, 1), -1);
        CHECK.same("3 skim -1", x.piece(0, 0, 15, -1, 1), -1);
        CHECK.same("3 skim 16", x.piece(0, 0, 15, 16, 1), -1);
        CHECK.same("3 pages 0", x.piece(0, 0, 1, 0, 0), -1);
        CHECK.same("3 pages -1", x.piece(0, 0, 1, 0, -1), -1);
        CHECK.same("3 pages 401", x.piece(0, 0, 1, 0, 401), -1);
        CHECK.same("3 refused: count(1)", x.count(1), 0);
        CHECK.same("3 all bits", x.piece(15, 15, 15, 15, 400), 0);
        CHECK.same("3 least", x.piece(0, 0, 1, 0, 1), 1);
        CHECK.same("3 count(1)", x.count(1), 2);
        CHECK.same("3 no topics", new WhatToRead().piece(0, 0, 1, 0, 1), -1);
    }

    private static void fifteenthPiece() {
        WhatToRead x = topics();
        for (int i = 0; i < 14; i++) {
            CHECK.same("3 piece " + i, x.piece(0, 0, 1, 0, i + 1), i);
        }
        CHECK.same("3 a fifteenth", x.piece(0, 0, 1, 0, 1), -1);
        CHECK.same("3 fourteen", x.count(1), 14);
        CHECK.same("3 its minutes", x.minutes(26), 28);
        CHECK.same("4 drop the last", x.drop(), 13);
        CHECK.same("3 again the fourteenth", x.piece(0, 0, 1, 0, 100), 13);
        CHECK.same("3 the new one's minutes", x.minutes(26), 200);
    }

    private static void dropping() {
        WhatToRead x = topics();
        CHECK.same("4 none to drop", x.drop(), -1);
        x.piece(0, 0, 1, 1, 1);
        x.piece(0, 0, 2, 2, 1);
        CHECK.same("4 drop()", x.drop(), 1);
        CHECK.same("4 the last is gone", x.minutes(2), -1);
        CHECK.same("4 the first stays", x.minutes(0), 2);
        CHECK.same("4 drop()", x.drop(), 0);
        CHECK.same("4 count(1)", x.count(1), 0);
        CHECK.same("4 no more", x.drop(), -1);
        CHECK.same("4 count(1)", x.count(1), 0);
    }

    private static void pacing() {
        WhatToRead x = topics();
        CHECK.same("5 pace(10)", x.pace(10), 2);
        CHECK.same("5 pace(0)", x.pace(0), -1);
        CHECK.same("5 pace(11)", x.pace(11), -1);
        CHECK.same("5 pace(-1)", x.pace(-1), -1);
        CHECK.same("5 stays", x.count(3), 10);
        CHECK.same("5 pace(1)", x.pace(1), 10);
        CHECK.same("5 pace(1)", x.pace(1), 1);
    }

    private static void minutesOfSteps() {
        WhatToRead x = topics();
        x.piece(0, 0, 1, 1, 400);
        x.piece(0, 0, 1, 0, 1);
        x.piece(0, 0, 1, 1, 5);
        int[][] due = {{1, 400, 134, 1, 1, 5, 2}, {2, 800, 267, 2, 1, 10, 4}, {3, 1200, 400, 3, 1, 15, 5},
            {10, 4000, 1334, 10, 4, 50, 17}};
        for (int[] line : due) {
            x.pace(line[0]);
            for (int step = 0; step < 6; step++) {
                CHECK.same("9 pace " + line[0] + " minutes(" + step + ")", x.minutes(step), line[step + 1]);
            }
        }
        CHECK.same("9 minutes(6)", x.minutes(6), -1);
        CHECK.same("9 minutes(7)", x.minutes(7), -1);
        CHECK.same("9 minutes(-1)", x.minutes(-1), -1);
        CHECK.same("9 minutes(-2)", x.minutes(-2), -1);
        CHECK.same("9 lowest int", x.minutes(Integer.MIN_VALUE), -1);
        CHECK.same("9 highest int", x.minutes(Integer.MAX_VALUE), -1);
    }

    private static void canBeDone() {
        WhatToRead x = topics();
        x.piece(3, 0, 4, 0, 1);
        x.piece(0, 9, 4, 4, 1);
        x.piece(2, 8, 4, 4, 1);
        x.piece(0, 0, 4, 0, 1);
        int[][] due = {{0, 0, 0, 0, 1}, {1, 0, 1, 0, 1}, {2, 1, 1, 0, 1}, {8, 0, 1, 0, 1}, {10, 1, 1, 1, 1}};
        for (int[] line : due) {
            x.know(line[0]);
            for (int step = 0; step < 8; step++) {
                CHECK.same("10 known " + line[0] + " can(" + step + ")", x.can(step), line[step / 2 + 1]);
            }
        }
        CHECK.same("10 can(8)", x.can(8), -1);
        CHECK.same("10 can(-1)", x.can(-1), -1);
        CHECK.same("10 can(-8)", x.can(-8), -1);
        CHECK.same("10 nothing new", x.know(15) == 15 && x.can(6) == 1, true);
    }

    private static void doing() {
        WhatToRead x = topics();
        x.piece(0, 0, 10, 8, 1);
        x.piece(2, 0, 4, 0, 1);
        x.piece(0, 4, 8, 0, 1);
        CHECK.same("11 needs", x.done(2), -1);
        CHECK.same("11 either", x.done(4), -1);
        CHECK.same("11 no such piece", x.done(6), -1);
        CHECK.same("11 no such piece", x.done(-1), -1);
        CHECK.same("11 refused", x.count(2), 0);
        CHECK.same("11 skimmed", x.done(1), 8);
        CHECK.same("11 read, with what it implies", x.done(0), 11);
        CHECK.same("11 skimmed for nothing", x.done(3), 11);
        CHECK.same("11 read", x.done(2), 15);
        CHECK.same("11 known", x.count(2), 15);
        CHECK.same("11 nothing new", x.done(4), 15);
        x.know(0);
        x.piece(0, 0, 6, 4, 1);
        CHECK.same("11 skimmed, with what it implies", x.done(7), 7);
    }
}
