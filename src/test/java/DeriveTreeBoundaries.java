/** For each sentence of the document that names a boundary case a check of its own, under that sentence. */
public final class DeriveTreeBoundaries {
    private static final int MIN = Integer.MIN_VALUE;
    private static final int MAX = Integer.MAX_VALUE;
    private static final int CALLS = 512;

    private static String sentence = "";
    private static int wrong = 0;

    private static void due(String call, int got, int want) {
        if (got != want) {
            wrong++;
            System.out.println("\"" + sentence + "\": " + call + " answered " + got + ", due is " + want);
        }
    }

    // What it is

    private static void the512thCall() {
        sentence = "An object is used for at most 512 calls after it has been made";
        DeriveTree x = new DeriveTree();
        for (int turn = 0; turn < CALLS / 16; turn++) {
            for (int slot = 1; slot < 16; slot++) {
                due("split(0, " + slot + ", 4) in turn " + turn, x.split(0, slot, 4), 4 * slot - 4);
            }
            due("revoke(0) in turn " + turn, x.revoke(0), 15);
        }
        DeriveTree y = new DeriveTree();
        for (int call = 1; call < CALLS; call++) {
            due("split(0, 1, 65), call " + call, y.split(0, 1, 65), -1);
        }
        due("split(0, 1, 64), the 512th call", y.split(0, 1, 64), 0);
    }

    /** Two keys change slots for all the calls there are. */
    private static void manyMoves() {
        sentence = "An object is used for at most 512 calls after it has been made";
        DeriveTree x = new DeriveTree();
        x.split(0, 1, 64);
        int upper = 0;
        int lower = 1;
        for (int turn = 0; turn < 100; turn++) {
            int nextUpper = (lower + 1) % 16;
            int nextLower = (lower + 2) % 16;
            due("move(" + upper + ", " + nextUpper + ")", x.move(upper, nextUpper), 0);
            due("move(" + lower + ", " + nextLower + ")", x.move(lower, nextLower), 0);
            upper = nextUpper;
            lower = nextLower;
            due("descends(" + upper + ", " + lower + ")", x.descends(upper, lower), 1);
            due("descends(" + lower + ", " + upper + ")", x.descends(lower, upper), 0);
            due("room(" + upper + ")", x.room(upper), 0);
        }
        due("revoke(" + upper + ")", x.revoke(upper), 1);
        due("room(" + upper + ")", x.room(upper), 64);
    }

    // Terms

    /** A second piece comes before the first goes, so the mark walks over every unit. */
    private static void everyUnit() {
        sentence = "PIECES are ranges of the units 0 to 63: a START and a SIZE";
        DeriveTree x = new DeriveTree();
        for (int unit = 0; unit < 64; unit++) {
            int slot = 1 + unit % 2;
            due("split(0, " + slot + ", 1) at unit " + unit, x.split(0, slot, 1), unit);
            due("piece(" + slot + ")", x.piece(slot), 100 * unit + 1);
            due("room(0)", x.room(0), 63 - unit);
            if (unit > 0) {
                due("delete(" + (3 - slot) + ")", x.delete(3 - slot), 0);
            }
        }
        due("split(0, 1, 1) with no unit left", x.split(0, 1, 1), -1);
        due("piece(2), the last unit", x.piece(2), 6301);
        due("delete(2)", x.delete(2), 0);
        due("split(0, 1, 1) when all came back", x.split(0, 1, 1), 0);
    }

    private static void firstPiece() {
        sentence = "There is one piece at the start: start 0, size 64";
        DeriveTree x = new DeriveTree();
        due("piece(0)", x.piece(0), 64);
        due("split(0, 1, 65)", x.split(0, 1, 65), -1);
        due("split(0, 1, 64)", x.split(0, 1, 64), 0);
        due("piece(1)", x.piece(1), 64);
        for (int slot = 2; slot < 16; slot++) {
            due("piece(" + slot + ")", x.piece(slot), -1);
        }
    }

    private static void markAtTheStart() {
        sentence = "A piece has a MARK: how many of its units, from its start on, are given out (0 at the start)";
        for (int size = 1; size <= 64; size++) {
            DeriveTree x = new DeriveTree();
            due("room(0)", x.room(0), 64);
            due("split(0, 1, " + size + ")", x.split(0, 1, size), 0);
            due("room(1) of a new piece of " + size, x.room(1), size);
            due("room(0) after a split of " + size, x.room(0), 64 - size);
            due("split(1, 2, " + size + "), all of it", x.split(1, 2, size), 0);
            due("room(1) after it", x.room(1), 0);
            due("room(2) of " + size, x.room(2), size);
        }
        usedPlaceMarkAtTheStart();
    }

    /** The new piece may be kept where one stood whose units were given out. */
    private static void usedPlaceMarkAtTheStart() {
        DeriveTree x = new DeriveTree();
        due("split(0, 1, 32)", x.split(0, 1, 32), 0);
        due("split(1, 2, 32)", x.split(1, 2, 32), 0);
        due("delete(1), its piece being gone with its units given out", x.delete(1), 1);
        due("split(0, 1, 32)", x.split(0, 1, 32), 32);
        due("room(1) of a new piece", x.room(1), 32);
        due("split(1, 3, 32)", x.split(1, 3, 32), 32);
    }

    private static void thereAsLongAsHeld() {
        sentence = "A piece is there as long as some slot holds a key to it";
        for (int last = 1; last < 16; last++) {
            DeriveTree x = new DeriveTree();
            x.split(0, 1, 64);
            for (int slot = 2; slot < 16; slot++) {
                x.copy(1, slot, 0);
            }
            for (int slot = 1; slot < 16; slot++) {
                if (slot != last) {
                    x.delete(slot);
                    due("room(0), " + last + " being left with others", x.room(0), 0);
                }
            }
            due("piece(" + last + "), the only key left to it", x.piece(last), 64);
            x.move(last, last % 15 + 1);
            due("room(0), the only key having moved", x.room(0), 0);
            due("delete of the last key", x.delete(last % 15 + 1), 0);
            due("room(0), no key being left to it", x.room(0), 64);
        }
    }

    /** Some keys to a piece go by a revoke, the one above them stays and keeps the piece there. */
    private static void thereAfterRevoke() {
        sentence = "A piece is there as long as some slot holds a key to it";
        DeriveTree x = new DeriveTree();
        x.split(0, 1, 20);
        x.copy(1, 2, 7);
        x.copy(2, 3, 7);
        due("revoke(2)", x.revoke(2), 1);
        due("room(0)", x.room(0), 44);
        due("revoke(1)", x.revoke(1), 1);
        due("room(0), one key being left", x.room(0), 44);
        due("revoke(0)", x.revoke(0), 1);
        due("room(0), no key being left", x.room(0), 64);
    }

    /** However many pieces were made before, the newer lies in the older and not the other way. */
    private static void numbersGrow() {
        sentence = "Pieces are numbered in the order in which they are made, the first piece being number 0";
        for (int before = 0; before <= 460; before++) {
            DeriveTree x = new DeriveTree();
            for (int made = 1; made <= before; made++) {
                x.split(0, 1 + (made - 1) % 15, 1);
                if (made % 15 == 0 || made == before) {
                    x.revoke(0);
                }
            }
            String after = " after " + before + " pieces";
            due("split(0, 1, 64)" + after, x.split(0, 1, 64), 0);
            due("split(1, 2, 64)" + after, x.split(1, 2, 64), 0);
            due("split(2, 3, 64)" + after, x.split(2, 3, 64), 0);
            due("delete(2)" + after, x.delete(2), 1);
            due("room(0)" + after, x.room(0), 0);
            due("room(1), a newer piece of its units being there" + after, x.room(1), 0);
            due("delete(3)" + after, x.delete(3), 0);
            due("room(1), only an older piece of its units being there" + after, x.room(1), 64);
            due("room(0)" + after, x.room(0), 0);
        }
    }

    private static void noPieceLiesInItself() {
        sentence = "A piece Q LIES IN a piece P if Q's number is greater than P's";
        DeriveTree x = new DeriveTree();
        x.copy(0, 1, 7);
        x.copy(1, 2, 7);
        due("split(2, 3, 10)", x.split(2, 3, 10), 0);
        due("delete(3)", x.delete(3), 0);
        due("room(0), only its own piece being there", x.room(0), 64);
        due("split(0, 3, 64)", x.split(0, 3, 64), 0);
        due("split(3, 4, 64)", x.split(3, 4, 64), 0);
        due("delete(4)", x.delete(4), 0);
        due("room(3), only an older piece of its units being there", x.room(3), 64);
        due("room(1), a newer piece of its units being there", x.room(1), 0);
    }

    /** Pieces newer than 16..31 that end right before it, begin right behind it, or fill its ends. */
    private static void allUnitsOfQAreUnitsOfP() {
        sentence = "and all units of Q are units of P";
        DeriveTree x = new DeriveTree();
        x.split(0, 1, 16);
        x.split(0, 2, 16);
        x.split(0, 3, 16);
        due("split(1, 4, 15)", x.split(1, 4, 15), 0);
        due("split(1, 5, 1), the unit before", x.split(1, 5, 1), 15);
        due("split(3, 6, 1), the unit behind", x.split(3, 6, 1), 32);
        due("split(2, 7, 1), its first unit", x.split(2, 7, 1), 16);
        due("split(2, 8, 14)", x.split(2, 8, 14), 17);
        due("split(2, 9, 1), its last unit", x.split(2, 9, 1), 31);
        x.delete(8);
        due("room(2), pieces at both ends lying in it", x.room(2), 0);
        x.delete(7);
        due("room(2), the last unit lying in it", x.room(2), 0);
        x.delete(9);
        due("room(2), the units beside it not lying in it", x.room(2), 16);
        due("room(1)", x.room(1), 0);
        due("room(3)", x.room(3), 15);
        due("split(2, 7, 1), its first unit", x.split(2, 7, 1), 16);
        due("split(2, 9, 1)", x.split(2, 9, 1), 17);
        x.delete(9);
        due("room(2), the first unit lying in it", x.room(2), 14);
        x.delete(7);
        due("room(2)", x.room(2), 16);
    }

    private static void everySlot() {
        sentence = "SLOTS 0 to 15 are free or hold a KEY: a piece and RIGHTS from 0 to 7";
        for (int from = 0; from < 16; from++) {
            for (int to = 0; to < 16; to++) {
                if (from != to) {
                    slotPair(from, to);
                }
            }
        }
    }

    private static void slotPair(int from, int to) {
        String pair = "(" + from + ", " + to + ")";
        DeriveTree x = new DeriveTree();
        if (from != 0) {
            due("move(0, " + from + ")", x.move(0, from), 0);
        }
        due("split" + pair + " of 9", x.split(from, to, 9), 0);
        due("piece of split" + pair, x.piece(to), 9);
        due("rights of split" + pair, x.rights(to), 7);
        due("room of split" + pair, x.room(to), 9);
        due("room left by split" + pair, x.room(from), 55);
        due("descends" + pair, x.descends(from, to), 1);
        due("descends back" + pair, x.descends(to, from), 0);
        due("descendants" + pair, x.descendants(from), 1);
        due("revoke" + pair, x.revoke(from), 1);
        for (int rights = 0; rights <= 7; rights++) {
            due("copy" + pair + " with " + rights, x.copy(from, to, rights), rights);
            due("rights of copy" + pair, x.rights(to), rights);
            due("piece of copy" + pair, x.piece(to), 64);
            due("delete of copy" + pair, x.delete(to), 0);
        }
        due("move" + pair, x.move(from, to), 0);
        due("piece left by move" + pair, x.piece(from), -1);
        due("piece of move" + pair, x.piece(to), 64);
        due("keys()", x.keys(), 1);
    }

    private static void otherSlotsFree() {
        sentence = "At the start slot 0 holds a key to the first piece with rights 7, and all others are free";
        DeriveTree x = new DeriveTree();
        due("rights(0)", x.rights(0), 7);
        for (int slot = 1; slot < 16; slot++) {
            due("rights(" + slot + ")", x.rights(slot), -1);
            due("delete(" + slot + ")", x.delete(slot), -1);
            due("copy(" + slot + ", 0, 7)", x.copy(slot, 0, 7), -1);
            due("copy(0, " + slot + ", 7) of a new object", new DeriveTree().copy(0, slot, 7), 7);
        }
    }

    private static void noParent() {
        sentence = "A key has a PARENT, another key, or none (that of slot 0 has none at the start)";
        DeriveTree x = new DeriveTree();
        for (int slot = 1; slot < 16; slot++) {
            x.copy(0, slot, 7);
            due("descends(" + slot + ", 0)", x.descends(slot, 0), 0);
        }
        due("delete(0)", x.delete(0), 15);
        for (int a = 1; a < 16; a++) {
            for (int b = 1; b < 16; b++) {
                due("descends(" + a + ", " + b + ") of keys without parent", x.descends(a, b), 0);
            }
        }
    }

    /** A line of sixteen keys, laid out in the slots in several orders. */
    private static void longLine() {
        sentence = "A key D DESCENDS from a key K if K is the parent of D, or the parent of D descends from K";
        for (int step = 1; step < 16; step += 2) {
            DeriveTree x = new DeriveTree();
            for (int i = 1; i < 16; i++) {
                x.copy((i - 1) * step % 16, i * step % 16, 7);
            }
            for (int i = 0; i < 16; i++) {
                due("descendants of the key " + i + " of a line", x.descendants(i * step % 16), 15 - i);
                for (int j = 0; j < 16; j++) {
                    int got = x.descends(i * step % 16, j * step % 16);
                    due("descends, keys " + i + " and " + j + " of a line", got, i < j ? 1 : 0);
                }
            }
        }
    }

    /** Nested pieces of the same start: the innermost one going, or all but the outermost at once. */
    private static void markGoesBack() {
        sentence = "Whenever no piece is there that lies in the piece P, the mark of P goes back to 0 at once";
        DeriveTree x = nested();
        due("delete(4)", x.delete(4), 0);
        due("split(3, 4, 29), all of the piece right after the delete", x.split(3, 4, 29), 0);
        due("room(2), a piece still lying in it", x.room(2), 1);
        due("delete(3)", x.delete(3), 1);
        due("room(2), a piece lying in it that was made of a lower one", x.room(2), 1);
        due("delete(4)", x.delete(4), 0);
        due("room(2)", x.room(2), 30);
        due("room(1)", x.room(1), 1);
        DeriveTree y = nested();
        due("revoke(1)", y.revoke(1), 3);
        due("split(1, 2, 31), all of the piece right after the revoke", y.split(1, 2, 31), 0);
        due("room(0), a piece still lying in it", y.room(0), 33);
        due("revoke(0)", y.revoke(0), 2);
        due("split(0, 1, 64)", y.split(0, 1, 64), 0);
    }

    private static DeriveTree nested() {
        DeriveTree x = new DeriveTree();
        due("split(0, 1, 31)", x.split(0, 1, 31), 0);
        due("split(1, 2, 30)", x.split(1, 2, 30), 0);
        due("split(2, 3, 29)", x.split(2, 3, 29), 0);
        due("split(3, 4, 28)", x.split(3, 4, 28), 0);
        return x;
    }

    /** One call takes away the last piece within several pieces that stay. */
    private static void manyMarksGoBack() {
        sentence = "Whenever no piece is there that lies in the piece P, the mark of P goes back to 0 at once";
        DeriveTree x = new DeriveTree();
        for (int slot = 1; slot < 8; slot++) {
            due("split(0, " + slot + ", 8)", x.split(0, slot, 8), 8 * slot - 8);
        }
        for (int slot = 1; slot < 8; slot++) {
            due("split(" + slot + ", " + (slot + 8) + ", 8)", x.split(slot, slot + 8, 8), 8 * slot - 8);
        }
        for (int slot = 7; slot > 0; slot--) {
            due("revoke(" + slot + ")", x.revoke(slot), 1);
            for (int other = 1; other < 8; other++) {
                due("room(" + other + ")", x.room(other), other < slot ? 0 : 8);
            }
            due("room(0)", x.room(0), 8);
        }
        due("revoke(0)", x.revoke(0), 7);
        due("room(0)", x.room(0), 64);
    }

    /** What is given out in the middle does not come back as long as anything else is out. */
    private static void markStays() {
        sentence = "Whenever no piece is there that lies in the piece P, the mark of P goes back to 0 at once";
        for (int last = 1; last < 16; last++) {
            DeriveTree x = new DeriveTree();
            for (int slot = 1; slot < 16; slot++) {
                x.split(0, slot, 4);
            }
            for (int slot = 1; slot < 16; slot++) {
                if (slot != last) {
                    x.delete(slot);
                    due("room(0), the piece of slot " + last + " being there", x.room(0), 4);
                }
            }
            due("split(0, 0, 1), refused", x.split(0, 0, 1), -1);
            due("room(0)", x.room(0), 4);
            due("delete(" + last + ")", x.delete(last), 0);
            due("room(0), none being there", x.room(0), 64);
        }
    }

    /** The key of a split piece may outlive the key and the piece it was made of. */
    private static void markWithoutTheFirstKey() {
        sentence = "Whenever no piece is there that lies in the piece P, the mark of P goes back to 0 at once";
        DeriveTree x = new DeriveTree();
        x.split(0, 1, 40);
        x.split(1, 2, 40);
        x.copy(0, 3, 1);
        due("delete(0), a copy holding its piece", x.delete(0), 2);
        due("room(3)", x.room(3), 24);
        due("revoke(3), nothing descending from it", x.revoke(3), 0);
        due("room(3), the pieces being there", x.room(3), 24);
        due("revoke(1)", x.revoke(1), 1);
        due("room(1)", x.room(1), 40);
        due("room(3)", x.room(3), 24);
        due("delete(1)", x.delete(1), 0);
        due("room(3)", x.room(3), 64);
        due("split(3, 0, 64)", x.split(3, 0, 64), 0);
        due("rights(0)", x.rights(0), 1);
    }

    /** The first piece is gone, so that a later one may be kept where it stood. */
    private static void markWithoutTheFirstPiece() {
        sentence = "Whenever no piece is there that lies in the piece P, the mark of P goes back to 0 at once";
        DeriveTree x = new DeriveTree();
        x.split(0, 1, 32);
        due("delete(0)", x.delete(0), 1);
        due("split(1, 2, 8)", x.split(1, 2, 8), 0);
        due("split(1, 3, 8)", x.split(1, 3, 8), 8);
        due("delete(3)", x.delete(3), 0);
        due("room(1), a piece lying in it", x.room(1), 16);
        due("delete(2)", x.delete(2), 0);
        due("room(1)", x.room(1), 32);
    }

    /** There were sixteen pieces, the most there can be; each in turn gets another in it and loses it. */
    private static void markOfSixteenPieces() {
        sentence = "Whenever no piece is there that lies in the piece P, the mark of P goes back to 0 at once";
        for (int outer = 1; outer < 16; outer++) {
            DeriveTree x = new DeriveTree();
            for (int slot = 1; slot < 16; slot++) {
                x.split(0, slot, 4);
            }
            int inner = outer % 15 + 1;
            x.delete(inner);
            due("split(" + outer + ", " + inner + ", 4)", x.split(outer, inner, 4), 4 * outer - 4);
            due("revoke(" + inner + ") of a key with none", x.revoke(inner), 0);
            due("room(" + outer + "), a piece lying in it", x.room(outer), 0);
            due("delete(" + inner + ")", x.delete(inner), 0);
            due("room(" + outer + ")", x.room(outer), 4);
            due("room(0)", x.room(0), 4);
        }
    }

    // Promise 2

    private static void splitStarts() {
        sentence = "its start is that piece's start plus its mark, and the mark grows by size";
        DeriveTree x = new DeriveTree();
        due("split(0, 1, 62)", x.split(0, 1, 62), 0);
        due("split(0, 2, 2)", x.split(0, 2, 2), 62);
        due("split(2, 3, 1)", x.split(2, 3, 1), 62);
        due("split(2, 4, 1), start and mark both above 0", x.split(2, 4, 1), 63);
        due("split(4, 5, 1)", x.split(4, 5, 1), 63);
        due("split(5, 6, 1)", x.split(5, 6, 1), 63);
        due("piece(6)", x.piece(6), 6301);
        due("room(2)", x.room(2), 0);
        due("room(0)", x.room(0), 0);
        due("room(6)", x.room(6), 1);
    }

    /** At every mark: the smallest and the greatest size and the one beyond each. */
    private static void splitSizes() {
        sentence = "Refused if [..] size is below 1 or above the size of the piece less its mark";
        for (int mark = 0; mark <= 64; mark++) {
            int room = 64 - mark;
            due("split of 0 at mark " + mark, marked(mark).split(0, 2, 0), -1);
            due("split of -1 at mark " + mark, marked(mark).split(0, 2, -1), -1);
            due("split of 1 at mark " + mark, marked(mark).split(0, 2, 1), room == 0 ? -1 : mark);
            due("split of " + room + " at mark " + mark, marked(mark).split(0, 2, room), room == 0 ? -1 : mark);
            due("split of " + (room + 1) + " at mark " + mark, marked(mark).split(0, 2, room + 1), -1);
            due("split of 65 at mark " + mark, marked(mark).split(0, 2, 65), -1);
            due("split of MIN at mark " + mark, marked(mark).split(0, 2, MIN), -1);
            due("split of MAX at mark " + mark, marked(mark).split(0, 2, MAX), -1);
            due("split of MAX - mark at mark " + mark, marked(mark).split(0, 2, MAX - mark), -1);
            DeriveTree x = marked(mark);
            x.split(0, 2, MAX);
            x.split(0, 2, 0);
            x.split(0, 2, MIN);
            due("room(0) after refused sizes at mark " + mark, x.room(0), room);
            due("piece(2) after refused sizes at mark " + mark, x.piece(2), -1);
        }
    }

    private static DeriveTree marked(int mark) {
        DeriveTree x = new DeriveTree();
        if (mark > 0) {
            x.split(0, 1, mark);
        }
        return x;
    }

    /** A smaller piece far from unit 0 has its own size as the bound. */
    private static void splitSizesOfASmallPiece() {
        sentence = "Refused if [..] size is below 1 or above the size of the piece less its mark";
        DeriveTree x = new DeriveTree();
        x.split(0, 1, 50);
        x.split(0, 2, 10);
        due("split(2, 3, 11)", x.split(2, 3, 11), -1);
        due("split(2, 3, 4)", x.split(2, 3, 4), 50);
        due("split(2, 4, 7)", x.split(2, 4, 7), -1);
        due("split(2, 4, 6)", x.split(2, 4, 6), 54);
        due("split(2, 5, 1)", x.split(2, 5, 1), -1);
        due("split(0, 5, 5)", x.split(0, 5, 5), -1);
        due("split(0, 5, 4)", x.split(0, 5, 4), 60);
    }

    private static void splitParent() {
        sentence = "The slot to holds a key to it then, with the rights of the key in from; its parent is the key in from";
        for (int rights = 0; rights <= 7; rights++) {
            DeriveTree x = new DeriveTree();
            x.copy(0, 1, rights);
            x.copy(0, 2, 7 - rights);
            due("split(1, 3, 1)", x.split(1, 3, 1), 0);
            due("rights(3)", x.rights(3), rights);
            due("rights(1)", x.rights(1), rights);
            due("descends(1, 3)", x.descends(1, 3), 1);
            due("descends(2, 3), another key to the same piece", x.descends(2, 3), 0);
            due("descendants(0)", x.descendants(0), 3);
            due("delete(1)", x.delete(1), 1);
        }
    }

    // Promise 3

    private static void copyRights() {
        sentence = "with those of its rights that are in rights too (bit by bit)";
        int[] far = {-1, -8, 8, 15, 16, 255, 256, 65535, 65536, MIN, MIN + 5, MAX, MAX - 7, MAX - 2};
        for (int own = 0; own <= 7; own++) {
            for (int rights : far) {
                DeriveTree x = new DeriveTree();
                x.copy(0, 1, own);
                due("copy(1, 2, " + rights + ") of rights " + own, x.copy(1, 2, rights), own & rights);
                due("rights(2)", x.rights(2), own & rights);
                due("copy(2, 3, 7), which gives none back", x.copy(2, 3, 7), own & rights);
                due("room(3)", x.room(3), 64);
                due("descends(1, 3)", x.descends(1, 3), 1);
            }
        }
    }

    private static void copyOfAUsedUpPiece() {
        sentence = "The slot to holds a key to the same piece as the key in from";
        DeriveTree x = new DeriveTree();
        x.split(0, 1, 64);
        due("copy(0, 2, 7) with no unit left", x.copy(0, 2, 7), 7);
        due("room(2)", x.room(2), 0);
        due("split(2, 3, 1)", x.split(2, 3, 1), -1);
        due("delete(1)", x.delete(1), 0);
        due("room(2)", x.room(2), 64);
        due("split(2, 3, 60)", x.split(2, 3, 60), 0);
        due("room(0)", x.room(0), 4);
        due("descends(0, 3)", x.descends(0, 3), 1);
    }

    // Promises 2 to 4

    private static void fullObject() {
        sentence = "Refused if from is not held, or to is held or out of range";
        DeriveTree x = new DeriveTree();
        for (int slot = 1; slot < 16; slot++) {
            due("copy(0, " + slot + ", 7)", x.copy(0, slot, 7), 7);
        }
        for (int slot = 0; slot <= 16; slot++) {
            due("split(0, " + slot + ", 1), no slot being free", x.split(0, slot, 1), -1);
            due("copy(0, " + slot + ", 7), no slot being free", x.copy(0, slot, 7), -1);
            due("move(0, " + slot + "), no slot being free", x.move(0, slot), -1);
            due("split(" + slot + ", " + slot + ", 1)", x.split(slot, slot, 1), -1);
            due("copy(" + slot + ", " + slot + ", 7)", x.copy(slot, slot, 7), -1);
            due("move(" + slot + ", " + slot + ")", x.move(slot, slot), -1);
        }
        due("keys()", x.keys(), 16);
        due("room(0)", x.room(0), 64);
        due("delete(15)", x.delete(15), 0);
        due("split(0, 15, 64), one slot being free", x.split(0, 15, 64), 0);
        due("keys()", x.keys(), 16);
    }

    private static void emptyObject() {
        sentence = "Refused if from is not held, or to is held or out of range";
        DeriveTree x = new DeriveTree();
        x.split(0, 1, 4);
        x.delete(0);
        x.delete(1);
        for (int slot = -1; slot <= 16; slot++) {
            for (int to : new int[] {-1, 0, 1, 15, 16}) {
                due("split(" + slot + ", " + to + ", 1), no slot being held", x.split(slot, to, 1), -1);
                due("copy(" + slot + ", " + to + ", 7), no slot being held", x.copy(slot, to, 7), -1);
                due("move(" + slot + ", " + to + "), no slot being held", x.move(slot, to), -1);
            }
            due("delete(" + slot + "), no slot being held", x.delete(slot), -1);
            due("revoke(" + slot + "), no slot being held", x.revoke(slot), -1);
            due("descends(" + slot + ", " + slot + "), no slot being held", x.descends(slot, slot), -1);
        }
        due("keys()", x.keys(), 0);
    }

    // Promise 4

    private static void moveInTheMiddle() {
        sentence = "the same key, with the same parent and the same keys that descend from it";
        for (int to = 4; to < 16; to++) {
            DeriveTree x = new DeriveTree();
            x.split(0, 1, 20);
            x.copy(1, 2, 3);
            x.split(1, 3, 6);
            due("move(1, " + to + ")", x.move(1, to), 0);
            due("piece(1)", x.piece(1), -1);
            due("copy(0, 1, 7), into the slot it left", x.copy(0, 1, 7), 7);
            due("descendants(1)", x.descendants(1), 0);
            due("descends(0, " + to + ")", x.descends(0, to), 1);
            due("descends(" + to + ", 2)", x.descends(to, 2), 1);
            due("descends(" + to + ", 3)", x.descends(to, 3), 1);
            due("room(" + to + ")", x.room(to), 14);
            due("room(0)", x.room(0), 44);
            due("delete(0)", x.delete(0), 2);
            due("revoke(" + to + ")", x.revoke(to), 2);
            due("room(" + to + ")", x.room(to), 20);
        }
    }

    private static void moveWithNothingLeft() {
        sentence = "The key moves from one slot to another";
        DeriveTree x = new DeriveTree();
        x.split(0, 1, 64);
        x.split(1, 2, 64);
        due("move(1, 3)", x.move(1, 3), 0);
        due("room(3), its units still given out", x.room(3), 0);
        due("room(0)", x.room(0), 0);
        due("move(0, 1)", x.move(0, 1), 0);
        due("room(1)", x.room(1), 0);
        due("move(2, 0)", x.move(2, 0), 0);
        due("room(0)", x.room(0), 64);
        due("room(3)", x.room(3), 0);
        due("descends(3, 0)", x.descends(3, 0), 1);
        due("descends(1, 3)", x.descends(1, 3), 1);
    }

    // Promise 5

    private static void deleteCounts() {
        sentence = "Otherwise answers how many keys got another parent or none";
        for (int below = 0; below <= 14; below++) {
            DeriveTree x = new DeriveTree();
            x.copy(0, 1, 7);
            for (int i = 0; i < below; i++) {
                x.copy(1, 2 + i, 7);
            }
            // A key two steps below is not counted; there is a slot for it unless all are held.
            int farther = x.copy(2, 15, 7) == -1 ? 0 : 1;
            due("delete(1) of " + below + " keys next below", x.delete(1), below);
            due("delete(1) again", x.delete(1), -1);
            due("descendants(0)", x.descendants(0), below + farther);
            due("delete(0)", x.delete(0), below);
            due("keys()", x.keys(), below + farther);
        }
        DeriveTree x = new DeriveTree();
        for (int slot = 1; slot < 16; slot++) {
            x.copy(0, slot, 7);
        }
        due("delete(0) of fifteen keys that get none", x.delete(0), 15);
    }

    private static void deletePassesParentsUp() {
        sentence = "keys whose parent it was get its parent as theirs (or none if it has none)";
        DeriveTree x = new DeriveTree();
        for (int slot = 1; slot < 16; slot++) {
            x.copy(slot - 1, slot, 7);
        }
        for (int slot = 14; slot > 0; slot--) {
            due("delete(" + slot + ")", x.delete(slot), 1);
            due("descends(" + (slot - 1) + ", 15)", x.descends(slot - 1, 15), 1);
            due("descendants(" + (slot - 1) + ")", x.descendants(slot - 1), 1);
        }
        due("delete(0), which has none", x.delete(0), 1);
        due("copy(15, 0, 7), into the slot of the first key", x.copy(15, 0, 7), 7);
        due("descends(0, 15)", x.descends(0, 15), 0);
        due("descends(15, 0)", x.descends(15, 0), 1);
        due("delete(15)", x.delete(15), 1);
        due("delete(0), the last key", x.delete(0), 0);
        due("delete(0), no key being left", x.delete(0), -1);
    }

    // Promise 6

    private static void revokeCounts() {
        sentence = "All keys that descend from the key in the slot are gone (the key itself stays)";
        for (int below = 0; below <= 15; below++) {
            DeriveTree row = new DeriveTree();
            DeriveTree line = new DeriveTree();
            for (int slot = 1; slot <= below; slot++) {
                row.split(0, slot, 4);
                line.copy(slot - 1, slot, 7);
            }
            due("revoke(0) of a row of " + below, row.revoke(0), below);
            due("revoke(0) of a line of " + below, line.revoke(0), below);
            due("keys() of the row", row.keys(), 1);
            due("keys() of the line", line.keys(), 1);
            due("room(0) of the row", row.room(0), 64);
            due("rights(0) of the line", line.rights(0), 7);
            due("revoke(0) of a key with none", row.revoke(0), 0);
        }
    }

    /** The key revoked stands low in a line of sixteen: what stands above it stays. */
    private static void revokeInALine() {
        sentence = "Otherwise answers how many they were";
        for (int slot = 0; slot < 16; slot++) {
            DeriveTree x = new DeriveTree();
            for (int i = 1; i < 16; i++) {
                x.split(i - 1, i, 65 - i);
            }
            due("revoke(" + slot + ") in a line of sixteen", x.revoke(slot), 15 - slot);
            due("keys()", x.keys(), slot + 1);
            for (int i = 0; i < 16; i++) {
                int piece = i == 0 ? 64 : 65 - i;
                due("piece(" + i + ")", x.piece(i), i <= slot ? piece : -1);
            }
            due("room(" + slot + ")", x.room(slot), slot == 0 ? 64 : 65 - slot);
        }
    }

    private static void revokeLeavesOthers() {
        sentence = "All keys that descend from the key in the slot are gone (the key itself stays)";
        DeriveTree x = new DeriveTree();
        x.copy(0, 1, 7);
        x.copy(0, 2, 7);
        x.split(1, 3, 4);
        x.split(2, 4, 4);
        due("delete(0)", x.delete(0), 2);
        due("revoke(1)", x.revoke(1), 1);
        due("piece(4), of a key that comes of another one", x.piece(4), 404);
        due("room(1), that piece being there", x.room(1), 56);
        due("revoke(0), a slot that is free", x.revoke(0), -1);
        due("revoke(2)", x.revoke(2), 1);
        due("room(1)", x.room(1), 64);
        due("keys()", x.keys(), 2);
    }

    // Promises 7 to 13

    private static void pieces() {
        sentence = "100 * start + size of the piece that the key leads to; -1";
        for (int start = 0; start < 64; start++) {
            for (int size : new int[] {1, 64 - start}) {
                DeriveTree x = marked(start);
                due("split(0, 2, " + size + ") at " + start, x.split(0, 2, size), start);
                due("piece(2)", x.piece(2), 100 * start + size);
                due("piece(0), which stays as it is", x.piece(0), 64);
                x.delete(2);
                due("piece(2), the key being gone", x.piece(2), -1);
            }
        }
    }

    private static void rightsOfAKeyGone() {
        sentence = "The rights of the key; -1";
        DeriveTree x = new DeriveTree();
        due("copy(0, 15, 0)", x.copy(0, 15, 0), 0);
        due("rights(15), none", x.rights(15), 0);
        due("rights(0), all", x.rights(0), 7);
        x.delete(15);
        due("rights(15), the key being gone", x.rights(15), -1);
        x.move(0, 15);
        due("rights(0), the key having moved", x.rights(0), -1);
        due("rights(15), where it moved to", x.rights(15), 7);
    }

    private static void rooms() {
        sentence = "The size of the piece that the key leads to, less its mark; -1";
        DeriveTree x = new DeriveTree();
        due("room(0), the greatest", x.room(0), 64);
        x.split(0, 1, 63);
        due("room(0)", x.room(0), 1);
        x.split(0, 2, 1);
        due("room(0), the smallest", x.room(0), 0);
        due("room(2)", x.room(2), 1);
        x.split(2, 3, 1);
        due("room(2), of one unit given out", x.room(2), 0);
        x.revoke(0);
        due("room(2), the key being gone", x.room(2), -1);
        due("room(0)", x.room(0), 64);
    }

    private static void descendsOfFreeSlots() {
        sentence = "1 if the key in slot b descends from the key in slot a, else 0; -1 if one of them is not held";
        DeriveTree x = new DeriveTree();
        x.split(0, 15, 1);
        due("descends(0, 15)", x.descends(0, 15), 1);
        due("descends(15, 0)", x.descends(15, 0), 0);
        due("descends(0, 0)", x.descends(0, 0), 0);
        due("descends(15, 15)", x.descends(15, 15), 0);
        for (int none : new int[] {1, 14, -1, 16, MIN, MAX}) {
            due("descends(0, " + none + ")", x.descends(0, none), -1);
            due("descends(" + none + ", 15)", x.descends(none, 15), -1);
            due("descends(" + none + ", " + none + ")", x.descends(none, none), -1);
        }
        x.delete(15);
        due("descends(0, 15), the key being gone", x.descends(0, 15), -1);
        due("descends(15, 0)", x.descends(15, 0), -1);
    }

    private static void descendantsCounts() {
        sentence = "How many keys descend from the key in the slot; -1";
        DeriveTree x = new DeriveTree();
        for (int below = 0; below <= 15; below++) {
            due("descendants(0) of " + below, x.descendants(0), below);
            if (below < 15) {
                x.copy(below / 2, below + 1, 7);
            }
        }
        due("descendants(1), children in two rows and more", x.descendants(1), 7);
        due("descendants(15)", x.descendants(15), 0);
        x.delete(1);
        due("descendants(1), the key being gone", x.descendants(1), -1);
        due("descendants(0)", x.descendants(0), 14);
        x.revoke(0);
        due("descendants(0)", x.descendants(0), 0);
        x.delete(0);
        due("descendants(0), no key being left", x.descendants(0), -1);
    }

    private static void keysCounts() {
        sentence = "How many slots are held";
        DeriveTree x = new DeriveTree();
        for (int held = 1; held <= 16; held++) {
            due("keys()", x.keys(), held);
            due("copy(0, " + held + ", 7)", x.copy(0, held, 7), held == 16 ? -1 : 7);
        }
        due("keys(), all slots being held", x.keys(), 16);
        for (int held = 15; held >= 0; held--) {
            x.delete(15 - held);
            due("keys()", x.keys(), held);
        }
        due("delete(0), no slot being held", x.delete(0), -1);
        due("keys(), no slot being held", x.keys(), 0);
    }

    private static void askingFreeSlots() {
        sentence = "piece, rights, room, descendants: -1 if the slot is not held, or no slot";
        DeriveTree x = new DeriveTree();
        x.split(0, 1, 8);
        x.split(1, 2, 8);
        x.delete(1);
        for (int slot : new int[] {1, 3, 15, -1, 16, -16, 32, 256, 65536, MIN, MAX}) {
            due("piece(" + slot + ")", x.piece(slot), -1);
            due("rights(" + slot + ")", x.rights(slot), -1);
            due("room(" + slot + ")", x.room(slot), -1);
            due("descendants(" + slot + ")", x.descendants(slot), -1);
        }
    }

    private static void checkTerms() {
        the512thCall();
        manyMoves();
        everyUnit();
        firstPiece();
        markAtTheStart();
        thereAsLongAsHeld();
        thereAfterRevoke();
        numbersGrow();
        noPieceLiesInItself();
        allUnitsOfQAreUnitsOfP();
        everySlot();
        otherSlotsFree();
        noParent();
        longLine();
        markGoesBack();
        manyMarksGoBack();
        markStays();
        markWithoutTheFirstKey();
        markWithoutTheFirstPiece();
        markOfSixteenPieces();
    }

    private static void checkPromises() {
        splitStarts();
        splitSizes();
        splitSizesOfASmallPiece();
        splitParent();
        copyRights();
        copyOfAUsedUpPiece();
        fullObject();
        emptyObject();
        moveInTheMiddle();
        moveWithNothingLeft();
        deleteCounts();
        deletePassesParentsUp();
        revokeCounts();
        revokeInALine();
        revokeLeavesOthers();
        pieces();
        rightsOfAKeyGone();
        rooms();
        descendsOfFreeSlots();
        descendantsCounts();
        keysCounts();
        askingFreeSlots();
    }

    public static void main(String[] args) {
        checkTerms();
        checkPromises();
        System.out.println(wrong == 0 ? "all answers are as due" : wrong + " answers are not as due");
        if (wrong != 0) {
            System.exit(1);
        }
    }
}
