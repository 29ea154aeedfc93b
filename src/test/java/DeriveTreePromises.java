import java.lang.reflect.Constructor;
import java.lang.reflect.Field;
import java.lang.reflect.Method;
import java.lang.reflect.Modifier;
import java.util.Set;
import java.util.TreeSet;
import java.util.function.ToIntFunction;

/** One or more checks for each promise of the document, named by its number. */
public final class DeriveTreePromises {
    private static final int[] NO_SLOTS = {-1, 16, 17, -16, 32, 256, Integer.MIN_VALUE, Integer.MAX_VALUE};
    private static int wrong = 0;

    private static void due(String call, Object got, Object want) {
        if (!got.equals(want)) {
            wrong++;
            System.out.println(call + " answered " + got + ", due is " + want);
        }
    }

    /** What the asking methods tell of an object: few enough calls to ask twice within the 512. */
    private static String state(DeriveTree x) {
        StringBuilder text = new StringBuilder("keys " + x.keys());
        for (int a = 0; a < 16; a++) {
            text.append("; ").append(a).append(": ").append(x.piece(a)).append(' ').append(x.rights(a));
            text.append(' ').append(x.room(a)).append(' ').append(x.descendants(a)).append(" over");
            for (int b = 0; a < 5 && b < 5; b++) {
                if (x.descends(a, b) == 1) {
                    text.append(' ').append(b);
                }
            }
        }
        return text.toString();
    }

    /** 0 over 1 (split 0..15) over 2 (split 0..7) over 3 (copy of 2), and 0 over 4 (split 16..31). */
    private static DeriveTree family() {
        DeriveTree x = new DeriveTree();
        x.split(0, 1, 16);
        x.split(1, 2, 8);
        x.copy(2, 3, 6);
        x.split(0, 4, 16);
        return x;
    }

    private static void face() {
        Set<String> methods = new TreeSet<>();
        for (Method m : DeriveTree.class.getDeclaredMethods()) {
            if (!Modifier.isPrivate(m.getModifiers())) {
                methods.add(m.toString().replace("DeriveTree.", ""));
            }
        }
        Set<String> want = Set.of("public int split(int,int,int)", "public int copy(int,int,int)",
            "public int move(int,int)", "public int delete(int)", "public int revoke(int)",
            "public int piece(int)", "public int rights(int)", "public int room(int)",
            "public int descends(int,int)", "public int descendants(int)", "public int keys()");
        due("the methods", methods, new TreeSet<>(want));
        for (Field f : DeriveTree.class.getDeclaredFields()) {
            due("private " + f.getName(), Modifier.isPrivate(f.getModifiers()), true);
        }
        Constructor<?>[] made = DeriveTree.class.getDeclaredConstructors();
        due("number of constructors", made.length, 1);
        due("public constructor", Modifier.isPublic(made[0].getModifiers()), true);
        due("arguments of the constructor", made[0].getParameterCount(), 0);
        due("the class", Modifier.toString(DeriveTree.class.getModifiers()), "public final");
    }

    private static void promise1NewObject() {
        DeriveTree x = new DeriveTree();
        due("1: keys()", x.keys(), 1);
        due("1: piece(0)", x.piece(0), 64);
        due("1: rights(0)", x.rights(0), 7);
        due("1: room(0)", x.room(0), 64);
        due("1: descendants(0)", x.descendants(0), 0);
        for (int slot = 1; slot < 16; slot++) {
            due("1: piece(" + slot + ")", x.piece(slot), -1);
        }
        due("1: delete(0) of a key without parent", x.delete(0), 0);
        DeriveTree y = new DeriveTree();
        due("1: keys() of another object", y.keys(), 1);
        due("1: keys() of the first object", x.keys(), 0);
    }

    private static void promise2Split() {
        DeriveTree x = new DeriveTree();
        due("2: split(0, 1, 10)", x.split(0, 1, 10), 0);
        due("2: split(0, 2, 20)", x.split(0, 2, 20), 10);
        due("2: piece(1)", x.piece(1), 10);
        due("2: piece(2)", x.piece(2), 1020);
        due("2: room(0)", x.room(0), 34);
        due("2: room(2)", x.room(2), 20);
        due("2: split(2, 3, 5)", x.split(2, 3, 5), 10);
        due("2: split(2, 15, 5)", x.split(2, 15, 5), 15);
        due("2: piece(15)", x.piece(15), 1505);
        due("2: room(0) is not changed by a split below", x.room(0), 34);
        due("2: descends(2, 3)", x.descends(2, 3), 1);
        due("2: descends(0, 3)", x.descends(0, 3), 1);
        due("2: descends(1, 3)", x.descends(1, 3), 0);
        due("2: split(0, 4, 35), one too many", x.split(0, 4, 35), -1);
        due("2: split(0, 4, 34), all that is left", x.split(0, 4, 34), 30);
        due("2: room(0)", x.room(0), 0);
        due("2: split(0, 5, 1)", x.split(0, 5, 1), -1);
        due("2: split(4, 5, 34)", x.split(4, 5, 34), 30);
    }

    private static void promise2SplitKeepsRights() {
        DeriveTree x = new DeriveTree();
        x.copy(0, 1, 5);
        due("2: split(1, 2, 3)", x.split(1, 2, 3), 0);
        due("2: rights(2)", x.rights(2), 5);
        x.copy(0, 3, 0);
        due("2: split(3, 4, 3) with no rights at all", x.split(3, 4, 3), 3);
        due("2: rights(4)", x.rights(4), 0);
        due("2: room(0), of the piece the copies share", x.room(0), 58);
    }

    private static void promise3Copy() {
        for (int mine = 0; mine < 8; mine++) {
            for (int asked = -9; asked < 20; asked++) {
                DeriveTree x = new DeriveTree();
                due("3: copy(0, 1, " + mine + ")", x.copy(0, 1, mine), mine);
                due("3: copy(1, 2, " + asked + ")", x.copy(1, 2, asked), mine & asked);
                due("3: rights(2)", x.rights(2), mine & asked);
                due("3: rights(1)", x.rights(1), mine);
            }
        }
        DeriveTree x = new DeriveTree();
        x.split(0, 1, 8);
        x.split(0, 2, 8);
        due("3: copy(2, 3, MIN_VALUE)", x.copy(2, 3, Integer.MIN_VALUE), 0);
        due("3: copy(2, 4, MAX_VALUE)", x.copy(2, 4, Integer.MAX_VALUE), 7);
        due("3: piece(3)", x.piece(3), 808);
        due("3: descends(2, 3)", x.descends(2, 3), 1);
        due("3: descends(0, 3)", x.descends(0, 3), 1);
        due("3: descends(3, 4)", x.descends(3, 4), 0);
        due("3: room(0), not changed by copies", x.room(0), 48);
        due("3: split(3, 5, 2)", x.split(3, 5, 2), 8);
        due("3: room(2), shared with its copies", x.room(2), 6);
        due("3: room(4)", x.room(4), 6);
    }

    private static void promise4Move() {
        DeriveTree x = family();
        due("4: move(2, 9)", x.move(2, 9), 0);
        due("4: piece(2)", x.piece(2), -1);
        due("4: piece(9)", x.piece(9), 8);
        due("4: rights(9)", x.rights(9), 7);
        due("4: room(1)", x.room(1), 8);
        due("4: descends(1, 9)", x.descends(1, 9), 1);
        due("4: descends(9, 3)", x.descends(9, 3), 1);
        due("4: descendants(0)", x.descendants(0), 4);
        due("4: keys()", x.keys(), 5);
        due("4: move(0, 15)", x.move(0, 15), 0);
        due("4: descendants(15)", x.descendants(15), 4);
        due("4: copy(3, 0, 7) into the slot left", x.copy(3, 0, 7), 6);
        due("4: descends(0, 1)", x.descends(0, 1), 0);
        due("4: descends(15, 0)", x.descends(15, 0), 1);
        due("4: room(15) of the first piece", x.room(15), 32);
    }

    private static void promise4MoveKeepsTheMark() {
        DeriveTree x = new DeriveTree();
        x.split(0, 1, 8);
        x.move(1, 2);
        due("4: room(0) after the only key to a piece moved", x.room(0), 56);
        x.move(2, 1);
        due("4: room(0) after it moved back", x.room(0), 56);
        due("4: delete(1)", x.delete(1), 0);
        due("4: room(0)", x.room(0), 64);
    }

    private static void promise5Delete() {
        DeriveTree x = family();
        x.copy(2, 5, 7);
        due("5: delete(2)", x.delete(2), 2);
        due("5: piece(2)", x.piece(2), -1);
        due("5: descends(1, 3)", x.descends(1, 3), 1);
        due("5: descends(1, 5)", x.descends(1, 5), 1);
        due("5: descendants(1)", x.descendants(1), 2);
        due("5: delete(0), only keys next below count", x.delete(0), 2);
        due("5: descends(1, 3)", x.descends(1, 3), 1);
        due("5: descends(4, 3)", x.descends(4, 3), 0);
        due("5: copy(4, 0, 7) into the slot of the one gone", x.copy(4, 0, 7), 7);
        due("5: descends(0, 1)", x.descends(0, 1), 0);
        due("5: descendants(0)", x.descendants(0), 0);
        due("5: delete(1), without parent", x.delete(1), 2);
        due("5: descends(3, 5)", x.descends(3, 5), 0);
        due("5: keys()", x.keys(), 4);
        due("5: delete(1) again", x.delete(1), -1);
    }

    private static void promise5DeleteAll() {
        DeriveTree x = new DeriveTree();
        due("5: delete(0)", x.delete(0), 0);
        due("5: keys()", x.keys(), 0);
        for (int slot = 0; slot < 16; slot++) {
            due("5: delete(" + slot + ")", x.delete(slot), -1);
            due("5: split(" + slot + ", 0, 1)", x.split(slot, 0, 1), -1);
            due("5: copy(" + slot + ", 0, 7)", x.copy(slot, 0, 7), -1);
        }
    }

    private static void promise6Revoke() {
        DeriveTree x = family();
        due("6: revoke(1)", x.revoke(1), 2);
        due("6: piece(1), which stays", x.piece(1), 16);
        due("6: piece(2)", x.piece(2), -1);
        due("6: piece(3)", x.piece(3), -1);
        due("6: piece(4), of another line", x.piece(4), 1616);
        due("6: room(1)", x.room(1), 16);
        due("6: room(0)", x.room(0), 32);
        due("6: revoke(1) again", x.revoke(1), 0);
        due("6: revoke(0)", x.revoke(0), 2);
        due("6: keys()", x.keys(), 1);
        due("6: room(0)", x.room(0), 64);
    }

    private static void promise6RevokeLeavesTheKeysAbove() {
        DeriveTree x = new DeriveTree();
        x.copy(0, 1, 7);
        x.split(1, 2, 8);
        due("6: revoke(2)", x.revoke(2), 0);
        due("6: room(0)", x.room(0), 56);
        due("6: delete(1)", x.delete(1), 1);
        due("6: revoke(0), a key that was passed up", x.revoke(0), 1);
        due("6: room(0)", x.room(0), 64);
    }

    /** The keys stand in slots in no order of descent, so any order of dropping meets a child first. */
    private static void promise6RevokeFullLine() {
        DeriveTree x = new DeriveTree();
        int from = 0;
        for (int step = 1; step < 16; step++) {
            int to = step * 7 % 16;
            x.copy(from, to, 7);
            from = to;
        }
        due("6: descendants(0) of a full line", x.descendants(0), 15);
        due("6: descends(0, " + from + ") over fifteen steps", x.descends(0, from), 1);
        due("6: revoke(7)", x.revoke(7), 14);
        due("6: keys()", x.keys(), 2);
        due("6: revoke(0)", x.revoke(0), 1);
    }

    private static void promise7Piece() {
        DeriveTree x = new DeriveTree();
        x.split(0, 1, 63);
        x.split(0, 2, 1);
        due("7: piece(0)", x.piece(0), 64);
        due("7: piece(1)", x.piece(1), 63);
        due("7: piece(2)", x.piece(2), 6301);
        x.copy(2, 3, 0);
        due("7: piece(3), of a key with no rights", x.piece(3), 6301);
        x.delete(2);
        due("7: piece(3), after the key it came of is gone", x.piece(3), 6301);
    }

    private static void promise8Rights() {
        DeriveTree x = new DeriveTree();
        x.copy(0, 1, 6);
        x.copy(1, 2, 3);
        x.copy(0, 3, 8);
        due("8: rights(0)", x.rights(0), 7);
        due("8: rights(1)", x.rights(1), 6);
        due("8: rights(2)", x.rights(2), 2);
        due("8: rights(3)", x.rights(3), 0);
        x.move(2, 4);
        due("8: rights(4)", x.rights(4), 2);
        x.delete(1);
        due("8: rights(4), its parent being gone", x.rights(4), 2);
        x.copy(0, 1, 1);
        due("8: rights(1), a slot used again", x.rights(1), 1);
    }

    private static void promise9Room() {
        DeriveTree x = new DeriveTree();
        x.split(0, 1, 20);
        x.split(0, 2, 20);
        x.delete(1);
        due("9: room(0), a later piece being there", x.room(0), 24);
        due("9: split(0, 1, 4), after the mark", x.split(0, 1, 4), 40);
        x.delete(2);
        due("9: room(0)", x.room(0), 20);
        x.delete(1);
        due("9: room(0), no piece lying in it", x.room(0), 64);
        due("9: split(0, 1, 4), from the start again", x.split(0, 1, 4), 0);
    }

    private static void promise9RoomWhileACopyHoldsThePiece() {
        DeriveTree x = new DeriveTree();
        x.split(0, 1, 8);
        x.copy(1, 2, 1);
        x.delete(1);
        due("9: room(0), a copy keeping the piece there", x.room(0), 56);
        x.delete(2);
        due("9: room(0)", x.room(0), 64);
    }

    /** A piece lies in another by its units and number, whatever became of the pieces between. */
    private static void promise9RoomOfPiecesOfTheSameUnits() {
        DeriveTree x = new DeriveTree();
        x.split(0, 1, 64);
        x.split(1, 2, 64);
        due("9: room(2), the older pieces not lying in it", x.room(2), 64);
        x.delete(1);
        due("9: room(0), a piece of the same units lying in it", x.room(0), 0);
        x.split(2, 3, 1);
        x.delete(2);
        due("9: room(0), a piece two steps below", x.room(0), 0);
        x.delete(0);
        due("9: room(3)", x.room(3), 1);
        due("9: piece(3)", x.piece(3), 1);
    }

    /** Neither an older piece nor a newer one of other units keeps a mark up. */
    private static void promise9RoomBesideOtherPieces() {
        DeriveTree x = new DeriveTree();
        x.split(0, 1, 8);
        x.split(0, 2, 8);
        x.split(0, 3, 8);
        x.split(1, 4, 4);
        x.split(2, 5, 4);
        x.split(3, 6, 4);
        due("9: room(2)", x.room(2), 4);
        x.delete(5);
        due("9: room(2), newer pieces lying before and behind it", x.room(2), 8);
        due("9: room(1)", x.room(1), 4);
        due("9: room(3)", x.room(3), 4);
        x.revoke(3);
        due("9: room(3)", x.room(3), 8);
        due("9: room(1)", x.room(1), 4);
    }

    /** Places inside the object are used again, which must not make a new piece look older. */
    private static void promise9RoomAfterManyPieces() {
        DeriveTree x = new DeriveTree();
        for (int turn = 0; turn < 40; turn++) {
            x.split(0, 1, 64);
            x.split(1, 2, 64);
            x.delete(1);
            due("9: room(0) in turn " + turn, x.room(0), 0);
            due("9: split(2, 1, 32) in turn " + turn, x.split(2, 1, 32), 0);
            x.revoke(1);
            due("9: room(2) in turn " + turn, x.room(2), 32);
            x.delete(1);
            due("9: room(2) in turn " + turn, x.room(2), 64);
            x.delete(2);
        }
        due("9: room(0) after the turns", x.room(0), 64);
    }

    private static void promise9RoomOfSixteenPieces() {
        DeriveTree x = new DeriveTree();
        for (int slot = 1; slot < 16; slot++) {
            due("9: split(0, " + slot + ", 4)", x.split(0, slot, 4), 4 * slot - 4);
        }
        for (int slot = 1; slot < 16; slot++) {
            due("9: piece(" + slot + ") of sixteen", x.piece(slot), 100 * (4 * slot - 4) + 4);
            due("9: room(" + slot + ") of sixteen", x.room(slot), 4);
        }
        due("9: piece(0) of sixteen", x.piece(0), 64);
        due("9: room(0) of sixteen", x.room(0), 4);
    }

    private static void promise10Descends() {
        DeriveTree x = family();
        String[] over = {"1 2 3 4", "2 3", "3", "", ""};
        for (int a = 0; a < 5; a++) {
            for (int b = 0; b < 5; b++) {
                int want = over[a].contains("" + b) ? 1 : 0;
                due("10: descends(" + a + ", " + b + ")", x.descends(a, b), want);
            }
            due("10: descends(" + a + ", 5)", x.descends(a, 5), -1);
            due("10: descends(5, " + a + ")", x.descends(5, a), -1);
            for (int none : NO_SLOTS) {
                due("10: descends(" + a + ", " + none + ")", x.descends(a, none), -1);
                due("10: descends(" + none + ", " + a + ")", x.descends(none, a), -1);
            }
        }
        due("10: descends(5, 5)", x.descends(5, 5), -1);
    }

    private static void promise11Descendants() {
        DeriveTree x = family();
        int[] want = {4, 2, 1, 0, 0};
        for (int slot = 0; slot < 5; slot++) {
            due("11: descendants(" + slot + ")", x.descendants(slot), want[slot]);
        }
        x.delete(1);
        due("11: descendants(0), one less", x.descendants(0), 3);
        DeriveTree wide = new DeriveTree();
        for (int slot = 1; slot < 16; slot++) {
            wide.copy(0, slot, 7);
        }
        due("11: descendants(0) of a full row", wide.descendants(0), 15);
        due("11: descendants(15)", wide.descendants(15), 0);
    }

    private static void promise12Keys() {
        DeriveTree x = new DeriveTree();
        for (int slot = 1; slot < 16; slot++) {
            x.copy(slot - 1, slot, 7);
            due("12: keys()", x.keys(), slot + 1);
        }
        due("12: copy(0, 15, 7) with all slots held", x.copy(0, 15, 7), -1);
        due("12: keys()", x.keys(), 16);
        x.delete(3);
        due("12: keys() after delete", x.keys(), 15);
        x.move(0, 3);
        due("12: keys() after move", x.keys(), 15);
        x.revoke(3);
        due("12: keys() after revoke", x.keys(), 1);
        x.delete(3);
        due("12: keys() with none", x.keys(), 0);
    }

    private static void promise13Limits() {
        DeriveTree x = family();
        for (int slot = 5; slot < 16; slot++) {
            asksNothing(x, slot);
        }
        for (int slot : NO_SLOTS) {
            asksNothing(x, slot);
        }
    }

    private static void asksNothing(DeriveTree x, int slot) {
        due("13: piece(" + slot + ")", x.piece(slot), -1);
        due("13: rights(" + slot + ")", x.rights(slot), -1);
        due("13: room(" + slot + ")", x.room(slot), -1);
        due("13: descendants(" + slot + ")", x.descendants(slot), -1);
    }

    private static void refused(String name, ToIntFunction<DeriveTree> call) {
        DeriveTree x = family();
        due(name, call.applyAsInt(x), -1);
        due("state after " + name, state(x), state(family()));
    }

    private static void refusedCallsChangeNothing() {
        for (int slot : NO_SLOTS) {
            refusedSource(slot);
            refusedTarget(slot);
        }
        refusedSource(5);
        refusedSource(9);
        for (int held = 0; held < 5; held++) {
            refusedTarget(held);
        }
        for (int size : new int[] {0, -1, 33, 64, 65, Integer.MIN_VALUE, Integer.MAX_VALUE}) {
            refused("split(0, 9, " + size + ")", x -> x.split(0, 9, size));
        }
    }

    private static void refusedSource(int from) {
        for (int to : new int[] {9, 0, from}) {
            refused("split(" + from + ", " + to + ", 1)", x -> x.split(from, to, 1));
            refused("copy(" + from + ", " + to + ", 7)", x -> x.copy(from, to, 7));
            refused("move(" + from + ", " + to + ")", x -> x.move(from, to));
        }
        refused("delete(" + from + ")", x -> x.delete(from));
        refused("revoke(" + from + ")", x -> x.revoke(from));
    }

    private static void refusedTarget(int to) {
        for (int held = 0; held < 5; held++) {
            int from = held;
            refused("split(" + from + ", " + to + ", 1)", x -> x.split(from, to, 1));
            refused("copy(" + from + ", " + to + ", 7)", x -> x.copy(from, to, 7));
            refused("move(" + from + ", " + to + ")", x -> x.move(from, to));
        }
    }

    private static void askingChangesNothing() {
        DeriveTree x = family();
        String before = state(x);
        due("state asked again", state(x), before);
    }

    /** The example of README.md, call by call. */
    private static void readmeExample() {
        DeriveTree tree = new DeriveTree();
        due("README: split(0, 1, 16)", tree.split(0, 1, 16), 0);
        due("README: copy(1, 2, 5)", tree.copy(1, 2, 5), 5);
        due("README: descends(0, 2)", tree.descends(0, 2), 1);
        due("README: piece(2)", tree.piece(2), 16);
        due("README: room(0)", tree.room(0), 48);
        due("README: move(2, 9)", tree.move(2, 9), 0);
        due("README: delete(1)", tree.delete(1), 1);
        due("README: room(0) after delete", tree.room(0), 48);
        due("README: revoke(0)", tree.revoke(0), 1);
        due("README: room(0) after revoke", tree.room(0), 64);
        due("README: rights(9)", tree.rights(9), -1);
    }

    public static void main(String[] args) {
        face();
        readmeExample();
        promise1NewObject();
        promise2Split();
        promise2SplitKeepsRights();
        promise3Copy();
        promise4Move();
        promise4MoveKeepsTheMark();
        promise5Delete();
        promise5DeleteAll();
        promise6Revoke();
        promise6RevokeLeavesTheKeysAbove();
        promise6RevokeFullLine();
        promise7Piece();
        promise8Rights();
        promise9Room();
        promise9RoomWhileACopyHoldsThePiece();
        promise9RoomOfPiecesOfTheSameUnits();
        promise9RoomBesideOtherPieces();
        promise9RoomAfterManyPieces();
        promise9RoomOfSixteenPieces();
        promise10Descends();
        promise11Descendants();
        promise12Keys();
        promise13Limits();
        refusedCallsChangeNothing();
        askingChangesNothing();
        System.out.println(wrong == 0 ? "all answers are as due" : wrong + " answers are not as due");
        if (wrong != 0) {
            System.exit(1);
        }
    }
}
