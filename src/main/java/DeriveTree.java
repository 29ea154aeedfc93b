/** Keys to pieces of memory that are split, copied, moved, deleted and revoked. */
public final class DeriveTree {
    private static final int SLOTS = 16;
    private static final int UNITS = 64;
    private static final int ALL_RIGHTS = 7;
    private static final int NONE = -1;
    private static final int REFUSED = -1;

    // A piece is there only while a slot holds a key to it, so there are never more of them
    // than slots, and the place of one that is gone can be used again.
    private static final int PLACES = SLOTS;

    // The place of the piece that the slot's key leads to, NONE if the slot is free.
    private final int[] keyPlace = new int[SLOTS];
    private final int[] keyRights = new int[SLOTS];
    // The slot of the parent key, or NONE.
    private final int[] keyParent = new int[SLOTS];

    private final int[] placeKeys = new int[PLACES];
    private final int[] pieceNumber = new int[PLACES];
    private final int[] pieceStart = new int[PLACES];
    private final int[] pieceSize = new int[PLACES];
    private final int[] pieceMark = new int[PLACES];
    private int piecesMade;

    public DeriveTree() {
        for (int slot = 0; slot < SLOTS; slot++) {
            keyPlace[slot] = NONE;
            keyParent[slot] = NONE;
        }
        int place = makePiece(0, UNITS);
        putKey(0, place, ALL_RIGHTS, NONE);
    }

    public int split(int from, int to, int size) {
        if (!isHeld(from) || !isFree(to)) {
            return REFUSED;
        }
        int source = keyPlace[from];
        if (size < 1 || size > pieceSize[source] - pieceMark[source]) {
            return REFUSED;
        }
        int start = pieceStart[source] + pieceMark[source];
        pieceMark[source] += size;
        int place = makePiece(start, size);
        putKey(to, place, keyRights[from], from);
        return start;
    }

    public int copy(int from, int to, int rights) {
        if (!isHeld(from) || !isFree(to)) {
            return REFUSED;
        }
        putKey(to, keyPlace[from], keyRights[from] & rights, from);
        return keyRights[to];
    }

    public int move(int from, int to) {
        if (!isHeld(from) || !isFree(to)) {
            return REFUSED;
        }
        putKey(to, keyPlace[from], keyRights[from], keyParent[from]);
        changeParent(from, to);
        dropKey(from);
        return 0;
    }

    public int delete(int slot) {
        if (!isHeld(slot)) {
            return REFUSED;
        }
        int changed = changeParent(slot, keyParent[slot]);
        dropKey(slot);
        takeBackMarks();
        return changed;
    }

    public int revoke(int slot) {
        if (!isHeld(slot)) {
            return REFUSED;
        }
        int gone = 0;
        // A key is found through its parents, so none may be dropped before all are found.
        int found = descendantSet(slot);
        for (int other = 0; other < SLOTS; other++) {
            if ((found >> other & 1) == 1) {
                dropKey(other);
                gone++;
            }
        }
        takeBackMarks();
        return gone;
    }

    public int piece(int slot) {
        if (!isHeld(slot)) {
            return REFUSED;
        }
        int place = keyPlace[slot];
        return 100 * pieceStart[place] + pieceSize[place];
    }

    public int rights(int slot) {
        return isHeld(slot) ? keyRights[slot] : REFUSED;
    }

    public int room(int slot) {
        if (!isHeld(slot)) {
            return REFUSED;
        }
        int place = keyPlace[slot];
        return pieceSize[place] - pieceMark[place];
    }

    public int descends(int a, int b) {
        if (!isHeld(a) || !isHeld(b)) {
            return REFUSED;
        }
        return comesFrom(b, a) ? 1 : 0;
    }

    public int descendants(int slot) {
        if (!isHeld(slot)) {
            return REFUSED;
        }
        int found = descendantSet(slot);
        int count = 0;
        for (int other = 0; other < SLOTS; other++) {
            count += found >> other & 1;
        }
        return count;
    }

    public int keys() {
        int count = 0;
        for (int slot = 0; slot < SLOTS; slot++) {
            if (keyPlace[slot] != NONE) {
                count++;
            }
        }
        return count;
    }

    private boolean isSlot(int slot) {
        return slot >= 0 && slot < SLOTS;
    }

    private boolean isHeld(int slot) {
        return isSlot(slot) && keyPlace[slot] != NONE;
    }

    private boolean isFree(int slot) {
        return isSlot(slot) && keyPlace[slot] == NONE;
    }

    private void putKey(int slot, int place, int keptRights, int parent) {
        keyPlace[slot] = place;
        keyRights[slot] = keptRights;
        keyParent[slot] = parent;
        placeKeys[place]++;
    }

    private void dropKey(int slot) {
        placeKeys[keyPlace[slot]]--;
        keyPlace[slot] = NONE;
        keyParent[slot] = NONE;
    }

    private int changeParent(int before, int after) {
        int changed = 0;
        for (int slot = 0; slot < SLOTS; slot++) {
            if (keyParent[slot] == before) {
                keyParent[slot] = after;
                changed++;
            }
        }
        return changed;
    }

    private boolean comesFrom(int slot, int ancestor) {
        int above = keyParent[slot];
        // No chain of parents is longer than there are slots.
        for (int step = 0; step < SLOTS && above != NONE; step++) {
            if (above == ancestor) {
                return true;
            }
            above = keyParent[above];
        }
        return false;
    }

    /** Bit i is set if slot i holds a key that descends from the one in the slot. */
    private int descendantSet(int slot) {
        int found = 0;
        for (int other = 0; other < SLOTS; other++) {
            if (comesFrom(other, slot)) {
                found |= 1 << other;
            }
        }
        return found;
    }

    private int makePiece(int start, int size) {
        int place = unusedPlace();
        pieceNumber[place] = piecesMade;
        pieceStart[place] = start;
        pieceSize[place] = size;
        pieceMark[place] = 0;
        piecesMade++;
        return place;
    }

    private int unusedPlace() {
        int place = 0;
        // A piece is made only for a free slot, so the last place is unused if no other is.
        while (place < PLACES - 1 && placeKeys[place] > 0) {
            place++;
        }
        return place;
    }

    private void takeBackMarks() {
        for (int place = 0; place < PLACES; place++) {
            if (!hasPieceWithin(place)) {
                pieceMark[place] = 0;
            }
        }
    }

    private boolean hasPieceWithin(int outer) {
        for (int place = 0; place < PLACES; place++) {
            if (placeKeys[place] > 0 && liesIn(place, outer)) {
                return true;
            }
        }
        return false;
    }

    private boolean liesIn(int inner, int outer) {
        // A piece of the same units lies in the older one only, hence the numbers.
        int innerEnd = pieceStart[inner] + pieceSize[inner];
        int outerEnd = pieceStart[outer] + pieceSize[outer];
        return pieceNumber[inner] > pieceNumber[outer]
            && pieceStart[inner] >= pieceStart[outer]
            && innerEnd <= outerEnd;
    }
}
