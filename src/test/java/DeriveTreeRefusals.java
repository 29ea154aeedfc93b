import java.util.ArrayList;
import java.util.Arrays;
import java.util.HashMap;
import java.util.List;
import java.util.Map;
import java.util.function.Supplier;
import java.util.function.ToIntFunction;

/** Every kind of refused call in many states: it answers -1, and the object then is as if it had not been made. */
public final class DeriveTreeRefusals {
    private static final int MIN = Integer.MIN_VALUE;
    private static final int MAX = Integer.MAX_VALUE;

    /** The ones next to the allowed, those that are a slot once wrapped to fewer bits, and the farthest. */
    private static final int[] NO_SLOTS = {-1, 16, 17, -15, -16, 32, 256, 257, 65536, MIN, MIN + 1, MAX, MAX - 15};
    private static final int[] TOO_SMALL = {0, -1, -2, -63, -64, -255, -65535, MIN, MIN + 1};

    /** All that is told by hand of a state: the room of each slot, -1 where the slot is free. */
    private record State(String name, Supplier<DeriveTree> maker, int[] rooms) {
        boolean held(int slot) {
            return slot >= 0 && slot < 16 && rooms[slot] != -1;
        }

        boolean free(int slot) {
            return slot >= 0 && slot < 16 && rooms[slot] == -1;
        }
    }

    private static final List<State> STATES = new ArrayList<>();
    private static final Map<State, String> LOOKS = new HashMap<>();
    private static final Map<State, String> FUTURES = new HashMap<>();
    private static int wrong = 0;
    private static int refusals = 0;

    private static void due(String call, Object got, Object want) {
        if (!got.equals(want)) {
            wrong++;
            System.out.println(call + " answered " + got + ", due is " + want);
        }
    }

    private static int[] rooms(int... slotsAndRooms) {
        int[] rooms = new int[16];
        Arrays.fill(rooms, -1);
        for (int i = 0; i < slotsAndRooms.length; i += 2) {
            rooms[slotsAndRooms[i]] = slotsAndRooms[i + 1];
        }
        return rooms;
    }

    private static DeriveTree empty() {
        DeriveTree x = new DeriveTree();
        x.delete(0);
        return x;
    }

    /** 0 over 1 (units 0..15) over 2 (units 0..7) over its copy 3, and 0 over 4 (units 16..31). */
    private static DeriveTree family() {
        DeriveTree x = new DeriveTree();
        x.split(0, 1, 16);
        x.split(1, 2, 8);
        x.copy(2, 3, 6);
        x.split(0, 4, 16);
        return x;
    }

    /** Without the first key: 1 and 4 have no parent. */
    private static DeriveTree orphans() {
        DeriveTree x = family();
        x.delete(0);
        return x;
    }

    private static DeriveTree highSlots() {
        DeriveTree x = new DeriveTree();
        x.move(0, 15);
        x.split(15, 14, 63);
        x.copy(14, 8, 0);
        return x;
    }

    /** No unit is left in any piece but the last, of one unit. */
    private static DeriveTree usedUp() {
        DeriveTree x = new DeriveTree();
        x.split(0, 15, 64);
        x.split(15, 7, 63);
        x.split(15, 3, 1);
        x.split(7, 5, 63);
        x.split(5, 6, 62);
        x.split(5, 4, 1);
        x.delete(6);
        return x;
    }

    private static DeriveTree fullRow() {
        DeriveTree x = new DeriveTree();
        for (int slot = 1; slot < 16; slot++) {
            x.copy(0, slot, slot);
        }
        return x;
    }

    private static DeriveTree fullLine() {
        DeriveTree x = new DeriveTree();
        for (int slot = 1; slot < 16; slot++) {
            x.split(slot - 1, slot, 64 - slot);
        }
        return x;
    }

    /** Fifteen pieces of four units, so that the sixteenth part is left but no slot to take it. */
    private static DeriveTree fullPieces() {
        DeriveTree x = new DeriveTree();
        for (int slot = 1; slot < 16; slot++) {
            x.split(0, slot, 4);
        }
        return x;
    }

    private static DeriveTree allButOneSlot() {
        DeriveTree x = fullPieces();
        x.delete(9);
        return x;
    }

    private static void makeStates() {
        STATES.add(new State("new", DeriveTree::new, rooms(0, 64)));
        STATES.add(new State("empty", DeriveTreeRefusals::empty, rooms()));
        STATES.add(new State("family", DeriveTreeRefusals::family, rooms(0, 32, 1, 8, 2, 8, 3, 8, 4, 16)));
        STATES.add(new State("orphans", DeriveTreeRefusals::orphans, rooms(1, 8, 2, 8, 3, 8, 4, 16)));
        STATES.add(new State("high slots", DeriveTreeRefusals::highSlots, rooms(15, 1, 14, 63, 8, 63)));
        STATES.add(new State("used up", DeriveTreeRefusals::usedUp, rooms(0, 0, 15, 0, 7, 0, 3, 1, 5, 0, 4, 1)));
        int[] row = new int[16];
        int[] line = new int[16];
        int[] pieces = new int[16];
        for (int slot = 0; slot < 16; slot++) {
            row[slot] = 64;
            line[slot] = slot == 15 ? 49 : 1;
            pieces[slot] = 4;
        }
        STATES.add(new State("full row", DeriveTreeRefusals::fullRow, row));
        STATES.add(new State("full line", DeriveTreeRefusals::fullLine, line));
        STATES.add(new State("full pieces", DeriveTreeRefusals::fullPieces, pieces));
        int[] allButOne = pieces.clone();
        allButOne[9] = -1;
        STATES.add(new State("all but one slot", DeriveTreeRefusals::allButOneSlot, allButOne));
    }

    /** Everything that can be asked, in 321 calls: once for an object, since answers after the 512th are free. */
    private static String look(DeriveTree x) {
        StringBuilder text = new StringBuilder().append(x.keys());
        for (int a = 0; a < 16; a++) {
            text.append(';').append(x.piece(a)).append(' ').append(x.rights(a)).append(' ').append(x.room(a));
            text.append(' ').append(x.descendants(a)).append(' ');
            for (int b = 0; b < 16; b++) {
                text.append(x.descends(a, b)).append(',');
            }
        }
        return text.toString();
    }

    /** What comes of later calls tells what asking can't: which keys share a piece, and what room comes back. */
    private static String future(DeriveTree x) {
        StringBuilder text = new StringBuilder();
        for (int slot = 0; slot < 16; slot++) {
            text.append(x.split(slot, (slot * 5 + 3) % 16, 2)).append(' ');
            text.append(x.copy(slot, (slot * 3 + 1) % 16, 5)).append(' ');
            text.append(x.move(slot, (slot + 7) % 16)).append(' ');
            text.append(x.room(slot)).append(' ').append(x.descendants(slot)).append(' ');
        }
        for (int turn = 0; turn < 16; turn++) {
            int slot = turn * 7 % 16;
            text.append(turn % 3 == 2 ? x.revoke(slot) : x.delete(slot)).append(' ');
            text.append(x.keys()).append(' ');
            for (int other = 0; other < 16; other++) {
                text.append(x.room(other)).append(' ');
            }
        }
        return text.toString();
    }

    private static void refused(State state, String call, ToIntFunction<DeriveTree> made) {
        String name = "refused call " + call + " in the state " + state.name;
        refusals++;
        DeriveTree looked = state.maker.get();
        due(name, made.applyAsInt(looked), -1);
        due("after the " + name + " the object looks the same:", look(looked).equals(LOOKS.get(state)), true);
        DeriveTree gone = state.maker.get();
        made.applyAsInt(gone);
        due("after the " + name + " later calls are the same:", future(gone).equals(FUTURES.get(state)), true);
    }

    private static int[] allNumbers() {
        int[] numbers = new int[16 + NO_SLOTS.length];
        for (int i = 0; i < numbers.length; i++) {
            numbers[i] = i < 16 ? i : NO_SLOTS[i - 16];
        }
        return numbers;
    }

    /** "Refused if from is not held, or to is held or out of range": split, copy and move. */
    private static void refusedSlotPairs(State state) {
        for (int from : allNumbers()) {
            for (int to : allNumbers()) {
                if (!state.held(from) || !state.free(to)) {
                    refused(state, "split(" + from + ", " + to + ", 1)", x -> x.split(from, to, 1));
                    refused(state, "copy(" + from + ", " + to + ", 7)", x -> x.copy(from, to, 7));
                    refused(state, "move(" + from + ", " + to + ")", x -> x.move(from, to));
                }
            }
        }
    }

    /** "Refused if the slot is not held": delete and revoke, and -1 from what only asks. */
    private static void refusedSlots(State state) {
        for (int slot : allNumbers()) {
            if (!state.held(slot)) {
                refused(state, "delete(" + slot + ")", x -> x.delete(slot));
                refused(state, "revoke(" + slot + ")", x -> x.revoke(slot));
                refused(state, "piece(" + slot + ")", x -> x.piece(slot));
                refused(state, "rights(" + slot + ")", x -> x.rights(slot));
                refused(state, "room(" + slot + ")", x -> x.room(slot));
                refused(state, "descendants(" + slot + ")", x -> x.descendants(slot));
            }
        }
    }

    /** "-1 if one of them is not held": the first, the second, both. */
    private static void refusedDescends(State state) {
        for (int a : allNumbers()) {
            for (int b : allNumbers()) {
                if (!state.held(a) || !state.held(b)) {
                    refused(state, "descends(" + a + ", " + b + ")", x -> x.descends(a, b));
                }
            }
        }
    }

    /** "or size is below 1 or above the size of the piece less its mark". */
    private static void refusedSizes(State state) {
        for (int slot = 0; slot < 16; slot++) {
            for (int other = 0; other < 16; other++) {
                if (state.held(slot) && state.free(other)) {
                    refusedSizes(state, slot, other);
                }
            }
        }
    }

    private static void refusedSizes(State state, int from, int to) {
        for (int size : TOO_SMALL) {
            refused(state, "split(" + from + ", " + to + ", " + size + ")", x -> x.split(from, to, size));
        }
        int room = state.rooms[from];
        // Added to a mark, the greatest int goes below 0; the others are allowed once wrapped to fewer bits.
        for (int size : new int[] {room + 1, room + 2, 65, 128, 257, 65537, MAX - 64, MAX - 1, MAX}) {
            refused(state, "split(" + from + ", " + to + ", " + size + ")", x -> x.split(from, to, size));
        }
    }

    /** "Otherwise answers": with a free slot and room, the greatest and the smallest size are not refused. */
    private static void allowed(State state) {
        for (int slot = 0; slot < 16; slot++) {
            for (int other = 0; other < 16; other++) {
                if (state.held(slot) && state.free(other)) {
                    allowed(state, slot, other);
                }
            }
        }
    }

    private static void allowed(State state, int from, int to) {
        String names = "(" + from + ", " + to + ") in the state " + state.name;
        int room = state.rooms[from];
        for (int size : new int[] {1, room}) {
            DeriveTree x = state.maker.get();
            int first = x.piece(from) / 100 + x.piece(from) % 100 - room;
            due("split of " + size + names, x.split(from, to, size), room == 0 ? -1 : first);
            due("room left by a split of " + size + names, x.room(from), room == 0 ? 0 : room - size);
        }
        DeriveTree x = state.maker.get();
        due("copy" + names, x.copy(from, to, 7), x.rights(from));
        due("move" + names, state.maker.get().move(from, to), 0);
    }

    private static void heldSlotsAreNotRefused(State state) {
        DeriveTree x = state.maker.get();
        int keys = 0;
        for (int slot = 0; slot < 16; slot++) {
            due("room(" + slot + ") in the state " + state.name, x.room(slot), state.rooms[slot]);
            keys += state.held(slot) ? 1 : 0;
            if (state.held(slot)) {
                due("revoke(" + slot + ") in the state " + state.name + " is refused", state.maker.get().revoke(slot) < 0, false);
                due("delete(" + slot + ") in the state " + state.name + " is refused", state.maker.get().delete(slot) < 0, false);
            }
        }
        due("keys() in the state " + state.name, x.keys(), keys);
    }

    /** Something used up by each refused call would show only after many of them. */
    private static void manyRefusedCalls(State state) {
        DeriveTree x = state.maker.get();
        for (int turn = 0; turn < 20; turn++) {
            due("split(" + turn + ", 16, 1)", x.split(turn, 16, 1), -1);
            due("split(" + turn + ", 1, 65)", x.split(turn, 1, 65), -1);
            due("copy(" + turn + ", -1, 7)", x.copy(turn, -1, 7), -1);
            due("move(" + turn + ", " + turn + ")", x.move(turn, turn), -1);
            due("delete(16)", x.delete(16), -1);
            due("revoke(-1)", x.revoke(-1), -1);
        }
        due("later calls, after many refused ones in the state " + state.name, future(x), FUTURES.get(state));
    }

    public static void main(String[] args) {
        makeStates();
        for (State state : STATES) {
            LOOKS.put(state, look(state.maker.get()));
            FUTURES.put(state, future(state.maker.get()));
            heldSlotsAreNotRefused(state);
            allowed(state);
            refusedSlotPairs(state);
            refusedSlots(state);
            refusedDescends(state);
            refusedSizes(state);
            manyRefusedCalls(state);
        }
        System.out.println(refusals + " refused calls: "
            + (wrong == 0 ? "all answers are as due" : wrong + " answers are not as due"));
        if (wrong != 0) {
            System.exit(1);
        }
    }
}
