import java.util.ArrayList;
import java.util.List;

/** Long runs of calls, each answer held against a second program made of the document's words. */
public final class DeriveTreeModel {
    private static final int RUNS = 4000;
    private static final int CALLS = 512;
    private static final int LAST_CALLS = 16 * 6;
    private static final int LATE_CALLS = 200000;
    private static final int[] ODD = {-1, 16, 64, -16, Integer.MIN_VALUE, Integer.MAX_VALUE};

    private static final class Piece {
        int number;
        int start;
        int size;
        int mark;

        boolean liesIn(Piece other) {
            if (number <= other.number) {
                return false;
            }
            for (int unit = start; unit < start + size; unit++) {
                if (unit < other.start || unit >= other.start + other.size) {
                    return false;
                }
            }
            return true;
        }
    }

    private static final class Key {
        Piece piece;
        int rights;
        Key parent;

        boolean descendsFrom(Key other) {
            return parent != null && (parent == other || parent.descendsFrom(other));
        }
    }

    private static final class Model {
        final Key[] slots = new Key[16];
        int made = 0;

        Model() {
            slots[0] = key(newPiece(0, 64), 7, null);
        }

        Piece newPiece(int start, int size) {
            Piece p = new Piece();
            p.number = made++;
            p.start = start;
            p.size = size;
            return p;
        }

        Key key(Piece piece, int rights, Key parent) {
            Key k = new Key();
            k.piece = piece;
            k.rights = rights;
            k.parent = parent;
            return k;
        }

        Key at(int slot) {
            return slot < 0 || slot > 15 ? null : slots[slot];
        }

        boolean canGive(int from, int to) {
            return at(from) != null && to >= 0 && to <= 15 && slots[to] == null;
        }

        List<Key> below(Key k) {
            List<Key> found = new ArrayList<>();
            for (Key d : slots) {
                if (d != null && d.descendsFrom(k)) {
                    found.add(d);
                }
            }
            return found;
        }

        void settle() {
            for (Key k : slots) {
                boolean inside = false;
                for (Key other : slots) {
                    inside |= k != null && other != null && other.piece.liesIn(k.piece);
                }
                if (k != null && !inside) {
                    k.piece.mark = 0;
                }
            }
        }

        int split(int from, int to, int size) {
            if (!canGive(from, to) || size < 1) {
                return -1;
            }
            Piece p = slots[from].piece;
            if (size > p.size - p.mark) {
                return -1;
            }
            Piece q = newPiece(p.start + p.mark, size);
            p.mark += size;
            slots[to] = key(q, slots[from].rights, slots[from]);
            settle();
            return q.start;
        }

        int copy(int from, int to, int rights) {
            if (!canGive(from, to)) {
                return -1;
            }
            slots[to] = key(slots[from].piece, slots[from].rights & rights, slots[from]);
            settle();
            return slots[to].rights;
        }

        int move(int from, int to) {
            if (!canGive(from, to)) {
                return -1;
            }
            slots[to] = slots[from];
            slots[from] = null;
            settle();
            return 0;
        }

        int delete(int slot) {
            Key gone = at(slot);
            if (gone == null) {
                return -1;
            }
            int changed = 0;
            for (Key k : slots) {
                if (k != null && k.parent == gone) {
                    k.parent = gone.parent;
                    changed++;
                }
            }
            slots[slot] = null;
            settle();
            return changed;
        }

        int revoke(int slot) {
            if (at(slot) == null) {
                return -1;
            }
            List<Key> gone = below(slots[slot]);
            for (int i = 0; i < 16; i++) {
                if (gone.contains(slots[i])) {
                    slots[i] = null;
                }
            }
            settle();
            return gone.size();
        }

        int descends(int a, int b) {
            if (at(a) == null || at(b) == null) {
                return -1;
            }
            return slots[b].descendsFrom(slots[a]) ? 1 : 0;
        }

        int keys() {
            int count = 0;
            for (Key k : slots) {
                count += k == null ? 0 : 1;
            }
            return count;
        }

        int ask(int method, int a, int b, int c) {
            Key k = at(a);
            switch (method) {
                case 0: return split(a, b, c);
                case 1: return copy(a, b, c);
                case 2: return move(a, b);
                case 3: return delete(a);
                case 4: return revoke(a);
                case 5: return k == null ? -1 : 100 * k.piece.start + k.piece.size;
                case 6: return k == null ? -1 : k.rights;
                case 7: return k == null ? -1 : k.piece.size - k.piece.mark;
                case 8: return descends(a, b);
                case 9: return k == null ? -1 : below(k).size();
                default: return keys();
            }
        }
    }

    private static int ask(DeriveTree x, int method, int a, int b, int c) {
        switch (method) {
            case 0: return x.split(a, b, c);
            case 1: return x.copy(a, b, c);
            case 2: return x.move(a, b);
            case 3: return x.delete(a);
            case 4: return x.revoke(a);
            case 5: return x.piece(a);
            case 6: return x.rights(a);
            case 7: return x.room(a);
            case 8: return x.descends(a, b);
            case 9: return x.descendants(a);
            default: return x.keys();
        }
    }

    // Numbers that look mixed but are the same in every run of the test.
    private static long mixed = 1;

    private static int pick(int below) {
        mixed = mixed * 6364136223846793005L + 1442695040888963407L;
        return (int) ((mixed >>> 33) % below);
    }

    private static int pickSlot() {
        return pick(40) == 0 ? ODD[pick(ODD.length)] : pick(16);
    }

    /** A held slot most of the time, since a slot picked blindly is refused too often to get far. */
    private static int pickFrom(Model m) {
        int slot = pickSlot();
        for (int tries = 0; tries < 4 && m.at(slot) == null; tries++) {
            slot = pickSlot();
        }
        return slot;
    }

    private static int pickTo(Model m) {
        int slot = pickSlot();
        for (int tries = 0; tries < 4 && m.at(slot) != null; tries++) {
            slot = pickSlot();
        }
        return slot;
    }

    private static int pickSize(Model m, int from) {
        int kind = pick(8);
        if (kind == 0) {
            return ODD[pick(ODD.length)];
        }
        int room = m.at(from) == null ? 64 : m.at(from).piece.size - m.at(from).piece.mark;
        if (kind < 3) {
            return room + pick(2);
        }
        return kind < 6 ? pick(9) : pick(room + 2);
    }

    /** Weighted to let trees grow: the runs differ in how often keys are deleted and revoked. */
    private static int pickMethod(int loss) {
        int kind = pick(100);
        if (kind < loss) {
            return pick(4) == 0 ? 4 : 3;
        }
        return kind < 60 ? pick(3) : 5 + pick(6);
    }

    private static boolean agree(int run, int call, Model m, DeriveTree x, int method, int a, int b, int c) {
        int want = m.ask(method, a, b, c);
        int got = ask(x, method, a, b, c);
        if (got != want) {
            System.out.println("run " + run + ", call " + call + ": method " + method + " of (" + a + ", " + b
                + ", " + c + ") answered " + got + ", due is " + want);
        }
        return got == want;
    }

    /** Asks for the whole state; a run leaves calls for this, since answers after the 512th are free. */
    private static boolean endsAlike(int run, Model m, DeriveTree x) {
        boolean good = true;
        for (int a = 0; a < 16 && good; a++) {
            for (int method = 5; method < 11 && good; method++) {
                good = agree(run, CALLS, m, x, method, a, (a + run) % 16, 0);
            }
        }
        return good;
    }

    private static boolean oneRun(int run) {
        Model m = new Model();
        DeriveTree x = new DeriveTree();
        int loss = 5 + pick(30);
        int asked = CALLS - LAST_CALLS;
        for (int call = 1; call <= asked; call++) {
            int method = pickMethod(loss);
            int a = pickFrom(m);
            int b = method == 8 ? pickFrom(m) : pickTo(m);
            int c = method == 1 ? pick(12) - 2 : pickSize(m, a);
            // The first key would soon be lost for good, and the object be empty.
            if (method == 3 && m.keys() == 1 && pick(50) != 0) {
                method = 0;
            }
            if (!agree(run, call, m, x, method, a, b, c)) {
                return false;
            }
        }
        return endsAlike(run, m, x);
    }

    /** Answers after the 512th call are free, but no call may ever throw. */
    private static void goOnForLong() {
        DeriveTree x = new DeriveTree();
        for (int call = 0; call < LATE_CALLS; call++) {
            int method = pick(11);
            if (method != 3 || x.keys() > 1) {
                ask(x, method, pickSlot(), pickSlot(), pick(70));
            }
        }
    }

    public static void main(String[] args) {
        int wrong = 0;
        for (int run = 1; run <= RUNS && wrong < 10; run++) {
            if (!oneRun(run)) {
                wrong++;
            }
        }
        goOnForLong();
        System.out.println(wrong == 0 ? "all runs are as due" : wrong + " runs are not as due");
        if (wrong != 0) {
            System.exit(1);
        }
    }
}
