import java.lang.reflect.Array;
import java.math.BigDecimal;
import java.util.ArrayDeque;
import java.util.ArrayList;
import java.util.Arrays;
import java.util.Deque;
import java.util.HashSet;
import java.util.IdentityHashMap;
import java.util.List;
import java.util.Map;
import java.util.Random;
import java.util.Set;

/**
 * Runs of calls, from fixed seeds, whose answers are compared with those of a model that works with real arrays,
 * java.lang.reflect.Array, real floats and doubles, BigDecimal, and copies of the whole state for undo.
 */
public final class ModelTests {
    private static final int RUNS = 5000;
    private static final int CALLS = 512;
    private static int wrong = 0;

    static class Mark {
        final int index;
        int number;
        Mark(int index, int number) { this.index = index; this.number = number; }
    }

    static final class Star extends Mark {
        Star(int index, int number) { super(index, number); }
    }

    static final Class<?>[] TYPES = {boolean.class, byte.class, char.class, short.class, int.class, long.class,
        float.class, double.class, Mark.class, Star.class, String.class, Integer.class, Object.class};
    static final String LETTERS = "zbcsijfd--two";

    // ---- values

    static int typeOf(Object o) {
        if (o == null) return -9;
        if (o instanceof Boolean) return 0;
        if (o instanceof Byte) return 1;
        if (o instanceof Character) return 2;
        if (o instanceof Short) return 3;
        if (o instanceof Integer) return 4;
        if (o instanceof Long) return 5;
        if (o instanceof Float) return 6;
        if (o instanceof Double) return 7;
        if (o instanceof Star) return 9;
        if (o instanceof Mark) return 8;
        return 10;
    }

    static long codeOf(Object o) {
        if (o == null) return 0;
        if (o instanceof Boolean) return (Boolean) o ? 1 : 0;
        if (o instanceof Character) return (Character) o;
        if (o instanceof Float) return Float.floatToIntBits((Float) o);
        if (o instanceof Double) return Double.doubleToLongBits((Double) o);
        if (o instanceof Mark) return ((Mark) o).number;
        if (o instanceof String) return Integer.parseInt((String) o);
        return ((Number) o).longValue();
    }

    static Object made(int kind, long v) {
        BigDecimal eighth = new BigDecimal(v).divide(new BigDecimal(8));
        switch (kind) {
            case 0: return (v & 1) == 1;
            case 1: return (byte) v;
            case 2: return (char) v;
            case 3: return (short) v;
            case 4: return (int) v;
            case 5: return v;
            case 6: return Float.parseFloat(eighth.toPlainString());
            default: return Double.parseDouble(eighth.toPlainString());
        }
    }

    static Object get(Object array, int place, int kind) {
        switch (kind) {
            case 0: return Array.getBoolean(array, place);
            case 1: return Array.getByte(array, place);
            case 2: return Array.getChar(array, place);
            case 3: return Array.getShort(array, place);
            case 4: return Array.getInt(array, place);
            case 5: return Array.getLong(array, place);
            case 6: return Array.getFloat(array, place);
            default: return Array.getDouble(array, place);
        }
    }

    static void setValue(Object array, int place, Object v) {
        switch (typeOf(v)) {
            case 0: Array.setBoolean(array, place, (Boolean) v); break;
            case 1: Array.setByte(array, place, (Byte) v); break;
            case 2: Array.setChar(array, place, (Character) v); break;
            case 3: Array.setShort(array, place, (Short) v); break;
            case 4: Array.setInt(array, place, (Integer) v); break;
            case 5: Array.setLong(array, place, (Long) v); break;
            case 6: Array.setFloat(array, place, (Float) v); break;
            default: Array.setDouble(array, place, (Double) v); break;
        }
    }

    static BigDecimal exact(Object o) {
        if (o instanceof Character) return new BigDecimal((int) (Character) o);
        if (o instanceof Float) return new BigDecimal((Float) o);
        if (o instanceof Double) return new BigDecimal((Double) o);
        return new BigDecimal(((Number) o).longValue());
    }

    /** The same number as a value of a type, null if it has none. */
    static Object exactAs(BigDecimal x, int kind) {
        Object o;
        switch (kind) {
            case 1: o = x.byteValue(); break;
            case 2: o = (char) x.longValue(); break;
            case 3: o = x.shortValue(); break;
            case 4: o = x.intValue(); break;
            case 5: o = x.longValue(); break;
            case 6: o = Float.parseFloat(x.toPlainString()); break;
            default: o = Double.parseDouble(x.toPlainString()); break;
        }
        return exact(o).compareTo(x) == 0 ? o : null;
    }

    static boolean widens(int from, int to) {
        try {
            get(Array.newInstance(TYPES[from], 1), 0, to);
            return true;
        } catch (IllegalArgumentException e) {
            return false;
        }
    }

    static Object widen(Object o, int to) {
        Object array = Array.newInstance(TYPES[typeOf(o)], 1);
        Array.set(array, 0, o);
        return get(array, 0, to);
    }

    static final boolean[][] WIDENS = new boolean[8][8];
    static {
        for (int i = 0; i < 8; i++) for (int j = 0; j < 8; j++) WIDENS[i][j] = widens(i, j);
    }

    static int least(Set<Integer> types) {
        for (int t = 0; t < 8; t++) {
            boolean ok = true;
            for (int s : types) ok &= WIDENS[s][t];
            for (int u = 0; u < 8; u++) {
                boolean common = true;
                for (int s : types) common &= WIDENS[s][u];
                ok &= !common || WIDENS[t][u];
            }
            if (ok) return t;
        }
        return -9;
    }

    static int chains(int from, int to, Object value, Set<Object> ends) {
        if (from == to) {
            if (ends != null) ends.add(value);
            return 1;
        }
        int n = 0;
        for (int next = 0; next < 8; next++) {
            if (next != from && WIDENS[from][next]) n += chains(next, to, ends == null ? null : widen(value, next), ends);
        }
        return n;
    }

    // ---- texts

    static boolean isNumber(String s, long low, long high) {
        if (!s.matches("0|-?[1-9][0-9]{0,8}")) return false;
        long v = Long.parseLong(s);
        return v >= low && v <= high;
    }

    static final long[] LOW = {0, -128, 0, -32768, Integer.MIN_VALUE, Long.MIN_VALUE, Long.MIN_VALUE, Long.MIN_VALUE};
    static final long[] HIGH = {1, 127, 65535, 32767, Integer.MAX_VALUE, Long.MAX_VALUE, Long.MAX_VALUE, Long.MAX_VALUE};

    static boolean isElement(String s, char type) {
        if (type == 't') return s.equals("*") || isNumber(s, 0, 9999);
        if (type == 'w') return s.equals("*") || isNumber(s, LOW[4], HIGH[4]);
        if (type == 'o') {
            if (s.equals("*")) return true;
            if (s.isEmpty() || "wo".indexOf(s.charAt(0)) >= 0 || LETTERS.indexOf(s.charAt(0)) < 0) return false;
            return !s.equals("t*") && s.charAt(0) != '-' && isElement(s.substring(1), s.charAt(0));
        }
        int t = LETTERS.indexOf(type);
        return isNumber(s, LOW[t], HIGH[t]);
    }

    static boolean isArrayText(String s) {
        if (s.isEmpty() || s.charAt(0) == '-' || LETTERS.indexOf(s.charAt(0)) < 0) return false;
        if (s.length() == 1) return true;
        String[] parts = s.substring(1).split(",", -1);
        if (parts.length > 6) return false;
        for (String part : parts) if (!isElement(part, s.charAt(0))) return false;
        return true;
    }

    static boolean canGoOn(String s) {
        for (String more : new String[] {"", "0", "1", "*", "z"}) if (isArrayText(s + more)) return true;
        return false;
    }

    static int fault(String s) {
        for (int i = 0; i < s.length(); i++) if (!canGoOn(s.substring(0, i + 1))) return i;
        return isArrayText(s) ? -9 : s.length();
    }

    static Object parsed(String s, int type) {
        if (s.equals("*")) return null;
        if (type == 12) return parsed(s.substring(1), LETTERS.indexOf(s.charAt(0)));
        if (type == 10) return s;
        long v = Long.parseLong(s);
        switch (type) {
            case 0: return v == 1;
            case 1: return (byte) v;
            case 2: return (char) v;
            case 3: return (short) v;
            case 4: case 11: return (int) v;
            case 5: return v;
            case 6: return Float.parseFloat(s);
            default: return Double.parseDouble(s);
        }
    }

    // ---- the model

    static final class Snapshot {
        Object[] slots;
        List<Object> copies = new ArrayList<>();
        int[] numbers;
    }

    static final class Model {
        Object[] slots = new Object[10];
        List<Object> arrays = new ArrayList<>();
        List<Mark> marks = new ArrayList<>();
        StringBuilder text = new StringBuilder();
        int form = 0;
        Object held = null;
        int[] report = {};
        List<int[]> views = new ArrayList<>();
        Deque<Snapshot> acts = new ArrayDeque<>();

        boolean slot(int s) { return s >= 0 && s <= 9; }
        boolean array(int s) { return slots[s] != null && slots[s].getClass().isArray(); }

        int thingIn(Object o) {
            if (o == null) return 15;
            if (o instanceof String) return 13;
            if (o instanceof Mark) return 14;
            return Arrays.asList(TYPES).indexOf(o.getClass().getComponentType());
        }

        Object newArray(int type, int length) {
            Object a = Array.newInstance(TYPES[type], length);
            arrays.add(a);
            return a;
        }

        Snapshot snapshot() {
            Snapshot s = new Snapshot();
            s.slots = slots.clone();
            for (Object a : arrays) {
                Object copy = Array.newInstance(a.getClass().getComponentType(), Array.getLength(a));
                System.arraycopy(a, 0, copy, 0, Array.getLength(a));
                s.copies.add(copy);
            }
            s.numbers = new int[marks.size()];
            for (int i = 0; i < s.numbers.length; i++) s.numbers[i] = marks.get(i).number;
            return s;
        }

        void act(Snapshot before) {
            acts.addLast(before);
            if (acts.size() > 14) acts.removeFirst();
        }

        int undo() {
            if (acts.isEmpty()) return -3;
            Snapshot s = acts.removeLast();
            slots = s.slots;
            for (int i = 0; i < s.copies.size(); i++) {
                Object copy = s.copies.get(i);
                System.arraycopy(copy, 0, arrays.get(i), 0, Array.getLength(copy));
            }
            for (int i = 0; i < s.numbers.length; i++) marks.get(i).number = s.numbers[i];
            return acts.size();
        }

        int combined(int misfit, Object array, int place) {
            boolean exists = place >= 0 && place < Array.getLength(array);
            if (misfit == 7 || exists) return misfit;
            return misfit == 0 ? 1 : 6;
        }

        int getReason(Object thing, int place, int kind) {
            if (thing == null) return 5;
            if (!thing.getClass().isArray()) return 3;
            int misfit = 0;
            try {
                get(Array.newInstance(thing.getClass().getComponentType(), 1), 0, kind);
            } catch (IllegalArgumentException e) {
                misfit = thing.getClass().getComponentType().isPrimitive() ? 2 : 4;
            }
            return combined(misfit, thing, place);
        }

        int putReason(Object thing, int place, int form, Object what) {
            if (thing == null) return 5;
            if (!thing.getClass().isArray()) return 3;
            Class<?> type = thing.getClass().getComponentType();
            if (form == 0 && type.isPrimitive()) return 7;
            int misfit = 0;
            try {
                Object probe = Array.newInstance(type, 1);
                if (form == 1) setValue(probe, 0, what);
                else Array.set(probe, 0, what);
            } catch (IllegalArgumentException e) {
                misfit = form == 1 && !type.isPrimitive() ? 4 : 2;
            }
            return combined(misfit, thing, place);
        }

        int fetchReason(Object thing, int place) {
            if (thing == null) return 5;
            if (!thing.getClass().isArray()) return 3;
            return place >= 0 && place < Array.getLength(thing) ? 0 : 1;
        }

        void store(Object thing, int place, int form, Object what) {
            if (form == 1) setValue(thing, place, what);
            else Array.set(thing, place, what);
        }

        int formOf(Object o) {
            int t = typeOf(o);
            return t < 0 ? 0 : t < 8 ? 2 : t < 10 ? 3 : 4;
        }

        int tell(int slot) {
            if (!slot(slot)) return -1;
            String s = text.toString();
            if (!isArrayText(s)) return -3;
            act(snapshot());
            int type = LETTERS.indexOf(s.charAt(0));
            String[] parts = s.length() == 1 ? new String[0] : s.substring(1).split(",");
            Object a = newArray(type, parts.length);
            for (int i = 0; i < parts.length; i++) Array.set(a, i, parsed(parts[i], type));
            slots[slot] = a;
            return type;
        }

        int about(int what) {
            Map<Object, Object> different = new IdentityHashMap<>();
            int elements = 0;
            int empty = 0;
            for (Object o : slots) {
                if (o == null) empty++;
                else if (o.getClass().isArray() && different.put(o, o) == null) elements += Array.getLength(o);
            }
            int fine = 0;
            for (int r : report) if (r == 0) fine++;
            int[] all = {marks.size(), acts.size(), views.size(), text.length(), different.size(), elements, empty, fine};
            return what < 0 || what > 7 ? -2 : all[what];
        }

        int make(int slot, int thing, int length) {
            if (!slot(slot)) return -1;
            if (thing < 0 || thing > 15 || length < 0 || length > 6 || thing > 12 && length != 0) return -2;
            act(snapshot());
            int before = thingIn(slots[slot]);
            slots[slot] = thing == 15 ? null : thing == 14 ? new Mark(-1, 0) : thing == 13 ? "x" : newArray(thing, length);
            return before;
        }

        int share(int from, int to) {
            if (!slot(from) || !slot(to)) return -1;
            act(snapshot());
            slots[to] = slots[from];
            return thingIn(slots[to]);
        }

        int thing(int slot, int what) {
            if (!slot(slot)) return -1;
            if (what != 0 && what != 1) return -2;
            if (what == 0) return thingIn(slots[slot]);
            return slots[slot] == null ? -9 : array(slot) ? Array.getLength(slots[slot]) : -3;
        }

        int same(int one, int other) {
            if (!slot(one) || !slot(other)) return -1;
            return array(one) && slots[one] == slots[other] ? 1 : 0;
        }

        long cell(int slot, int place, int what) {
            if (!slot(slot)) return -1;
            if (!array(slot)) return -3;
            if (place < 0 || place >= Array.getLength(slots[slot]) || what < 0 || what > 2) return -2;
            Object o = Array.get(slots[slot], place);
            return what == 0 ? typeOf(o) : what == 1 ? codeOf(o) : o instanceof Mark ? ((Mark) o).index : -9;
        }

        int hold(int form, Object what) {
            this.form = form;
            held = what;
            return 1;
        }

        int mark(int star, int number) {
            if (star < 0 || star > 1 || number < 0 || number > 999) return -2;
            if (marks.size() == 20) return -4;
            Mark m = star == 1 ? new Star(marks.size(), number) : new Mark(marks.size(), number);
            marks.add(m);
            hold(3, m);
            return m.index;
        }

        int text(int number) {
            if (number < 0 || number > 9999) return -2;
            hold(4, Integer.toString(number));
            return Integer.toString(number).length();
        }

        int turn() {
            if (form != 1 && form != 2) return -3;
            form = 3 - form;
            return form;
        }

        long hand(int what) {
            switch (what) {
                case 0: return form;
                case 1: return typeOf(held);
                case 2: return codeOf(held);
                case 3: return held instanceof Mark ? ((Mark) held).index : -9;
                default: return -2;
            }
        }

        int grow(int number) {
            if (number < 0 || number > 999) return -2;
            if (form != 3) return -3;
            act(snapshot());
            int before = ((Mark) held).number;
            ((Mark) held).number = number;
            return before;
        }

        int take(int slot, int place, int kind) {
            if (!slot(slot)) return -1;
            if (kind < 0 || kind > 7) return -2;
            int reason = getReason(slots[slot], place, kind);
            if (reason == 0) hold(1, get(slots[slot], place, kind));
            return reason;
        }

        int fetch(int slot, int place) {
            if (!slot(slot)) return -1;
            int reason = fetchReason(slots[slot], place);
            if (reason == 0) {
                Object o = Array.get(slots[slot], place);
                hold(formOf(o), o);
            }
            return reason;
        }

        int lay(int slot, int place) {
            if (!slot(slot)) return -1;
            int reason = putReason(slots[slot], place, form, held);
            if (reason == 0) {
                act(snapshot());
                store(slots[slot], place, form, held);
            }
            return reason;
        }

        int scatter(int slot, long x) {
            if (!slot(slot)) return -1;
            if (thingIn(slots[slot]) > 7) return -3;
            act(snapshot());
            int n = Array.getLength(slots[slot]);
            for (int i = 0; i < n; i++) {
                x = x * 6364136223846793005L + 1442695040888963407L;
                Array.set(slots[slot], i, made(thingIn(slots[slot]), x >> 20));
            }
            return n;
        }

        int convert(int from, int to, int how) {
            if (!slot(from) || !slot(to)) return -1;
            if (!array(from) || !array(to)) return -3;
            if (how < 0 || how > 3) return -2;
            Snapshot before = snapshot();
            Object a = slots[from];
            Object b = slots[to];
            int n = Math.min(Array.getLength(a), Array.getLength(b));
            report = new int[n];
            int fine = 0;
            for (int i = 0; i < n; i++) {
                report[i] = convertOne(a, b, i, how);
                if (report[i] == 0) fine++;
            }
            if (fine > 0) act(before);
            return fine;
        }

        int convertOne(Object a, Object b, int i, int how) {
            Object what = Array.get(a, i);
            int form = formOf(what);
            int target = thingIn(b);
            if (how < 2) {
                int kind = how == 0 ? thingIn(a) : target;
                kind = kind > 7 ? 4 : kind;
                int reason = getReason(a, i, kind);
                if (reason != 0) return reason;
                what = get(a, i, kind);
                form = 1;
            }
            int type = typeOf(what);
            if (how == 3 && type >= 1 && type <= 7 && target >= 1 && target <= 7) {
                Object o = exactAs(exact(what), target);
                if (o == null) return 8;
                Array.set(b, i, o);
                return 0;
            }
            int reason = putReason(b, i, form, what);
            if (reason == 0) store(b, i, form, what);
            return reason;
        }

        int report(int place) { return place >= 0 && place < report.length ? report[place] : -9; }

        int carry(int slot, int place, int way) {
            if (!slot(slot)) return -1;
            String digits = Integer.toString(way);
            if (!digits.matches("[1-8]{1,6}")) return -2;
            int reason = fetchReason(slots[slot], place);
            if (reason != 0) return reason;
            Object o = Array.get(slots[slot], place);
            int form = formOf(o);
            for (char c : digits.toCharArray()) {
                Object a = Array.newInstance(TYPES[c - '1'], 1);
                reason = putReason(a, 0, form, o);
                if (reason != 0) return reason;
                store(a, 0, form, o);
                o = get(a, 0, c - '1');
                form = 1;
            }
            hold(1, o);
            return 0;
        }

        int ends(int slot, int place, int kind) {
            if (!slot(slot)) return -1;
            if (kind < 0 || kind > 7) return -2;
            if (fetchReason(slots[slot], place) != 0) return -9;
            Object o = Array.get(slots[slot], place);
            if (formOf(o) != 2) return -9;
            Set<Object> ends = new HashSet<>();
            ModelTests.chains(typeOf(o), kind, o, ends);
            return ends.size();
        }

        int least(int set) {
            if (set < 1 || set > 1023) return -2;
            Set<Integer> types = new HashSet<>();
            for (int s = 0; s < 10; s++) if ((set & 1 << s) != 0) types.add(thingIn(slots[s]));
            for (int t : types) if (t > 7) return -3;
            return ModelTests.least(types);
        }

        int join(int one, int other, int to) {
            if (!slot(one) || !slot(other) || !slot(to)) return -1;
            if (!array(one) || !array(other)) return -3;
            Object a = slots[one];
            Object b = slots[other];
            int n = Array.getLength(a);
            int m = Array.getLength(b);
            if (n + m > 6) return -4;
            int s = thingIn(a);
            int t = thingIn(b);
            int type = s < 8 && t < 8 ? ModelTests.least(new HashSet<>(Arrays.asList(s, t))) : -9;
            boolean got = type >= 0;
            if (!got) type = s == t ? s : Math.min(s, t) == 8 && Math.max(s, t) == 9 ? 8 : 12;
            act(snapshot());
            Object c = newArray(type, n + m);
            for (int i = 0; i < n + m; i++) {
                Object from = i < n ? a : b;
                int place = i < n ? i : i - n;
                Array.set(c, i, got ? get(from, place, type) : Array.get(from, place));
            }
            slots[to] = c;
            return type;
        }

        int cut(int from, int to, int span) {
            if (!slot(from) || !slot(to)) return -1;
            if (!array(from)) return -3;
            if (span < 0) return -2;
            int start = span / 10;
            int count = span % 10;
            if (count > 6 || start > 6 || start + count > Array.getLength(slots[from])) return -2;
            act(snapshot());
            int type = thingIn(slots[from]);
            Object c = newArray(type, count);
            System.arraycopy(slots[from], start, c, 0, count);
            slots[to] = c;
            return type;
        }

        boolean agree(Object x, Object y) {
            if (formOf(x) == 2 && formOf(y) == 2) {
                int t = ModelTests.least(new HashSet<>(Arrays.asList(typeOf(x), typeOf(y))));
                return t >= 0 && widen(x, t).equals(widen(y, t));
            }
            if (x instanceof String && y instanceof String) return x.equals(y);
            return x == y;
        }

        int alike(int one, int other) {
            if (!slot(one) || !slot(other)) return -1;
            if (!array(one) || !array(other)) return -3;
            int n = Array.getLength(slots[one]);
            int m = Array.getLength(slots[other]);
            for (int i = 0; i < Math.min(n, m); i++) {
                if (!agree(Array.get(slots[one], i), Array.get(slots[other], i))) return i;
            }
            return n == m ? -9 : Math.min(n, m);
        }

        int unlike(int slot) {
            if (!slot(slot)) return -1;
            if (!array(slot)) return -3;
            Set<Object> different = new HashSet<>();
            for (int i = 0; i < Array.getLength(slots[slot]); i++) different.add(Array.get(slots[slot], i));
            return different.size();
        }

        int total(int slot, int kind) {
            if (!slot(slot)) return -1;
            if (kind != 4 && kind != 5) return -2;
            if (!array(slot)) return slots[slot] == null ? 5 : 3;
            int narrow = 0;
            long wide = 0;
            for (int i = 0; i < Array.getLength(slots[slot]); i++) {
                int reason = getReason(slots[slot], i, kind);
                if (reason != 0) return reason;
                if (kind == 4) narrow += Array.getInt(slots[slot], i);
                else wide += Array.getLong(slots[slot], i);
            }
            if (kind == 4) hold(1, narrow);
            else hold(1, wide);
            return 0;
        }

        int see(int how, int kind, int reason) {
            if (how < 0 || how > 2 || kind < 0 || kind > 7 || reason < 0 || reason > 5) return -2;
            if (views.size() == 6) return -4;
            views.add(new int[] {how, kind, reason});
            return views.size();
        }

        int which() {
            int set = 0;
            for (int t = 0; t < 16; t++) {
                Object thing = t == 15 ? null : t == 14 ? new Mark(-1, 0) : t == 13 ? "x" : Array.newInstance(TYPES[t], 1);
                boolean all = true;
                for (int[] v : views) {
                    int reason = v[0] == 0 ? getReason(thing, 0, v[1]) : putReason(thing, 0, v[0], made(v[1], 0));
                    all &= reason == v[2];
                }
                if (all) set |= 1 << t;
            }
            return set;
        }
    }

    // ---- the runs

    static final class Run {
        final long seed;
        final Random r;
        final WidenDesk desk = new WidenDesk();
        final Model model = new Model();
        final StringBuilder said = new StringBuilder();
        int calls = 0;
        boolean broken = false;

        Run(long seed) {
            this.seed = seed;
            r = new Random(seed);
        }

        void due(String call, long got, long want) {
            calls++;
            if (broken) return;
            said.append(call).append(" = ").append(got).append("; ");
            if (got != want) {
                broken = true;
                wrong++;
                if (wrong <= 5) System.out.println("seed " + seed + ": " + said + " due is " + want);
            }
        }

        int slot() { return r.nextInt(60) == 0 ? r.nextInt(40) - 20 : r.nextInt(r.nextInt(8) == 0 ? 10 : 5); }
        int place() { return r.nextInt(12) == 0 ? r.nextInt(20) - 8 : r.nextInt(4); }
        int kind() { return r.nextInt(40) == 0 ? r.nextInt(20) - 6 : r.nextInt(8); }
        int number(int most) { return r.nextInt(25) == 0 ? r.nextInt() : r.nextInt(25) == 0 ? most + 1 : r.nextInt(most + 1); }

        long big() {
            switch (r.nextInt(6)) {
                case 0: return r.nextLong();
                case 1: return r.nextLong() >> r.nextInt(64);
                case 2: return (1L << r.nextInt(64)) + r.nextInt(5) - 2;
                case 3: return (r.nextLong() | 1L << 62) & -1L << 20 + r.nextInt(43);
                case 4: return (r.nextInt(2000) - 1000) * 8L;
                default: return r.nextInt(40) - 20;
            }
        }

        String element(char type) {
            if ("two".indexOf(type) >= 0 && r.nextInt(4) == 0) return "*";
            if (type == 'o') {
                char inner = "zbcsijfdt".charAt(r.nextInt(9));
                return inner + element(inner).replace('*', '5');
            }
            int t = LETTERS.indexOf(type);
            long low = type == 't' ? 0 : type == 'w' ? LOW[4] : LOW[t];
            long high = type == 't' ? 9999 : type == 'w' ? HIGH[4] : HIGH[t];
            low = Math.max(low, -999999999);
            high = Math.min(high, 999999999);
            if (r.nextInt(12) == 0) return Long.toString(r.nextBoolean() ? low : high);
            if (r.nextInt(40) == 0) return Long.toString(r.nextBoolean() ? low - 1 : high + 1);
            long v = r.nextInt(3) == 0 ? (r.nextInt() & -1) % (high + 1) : r.nextInt(3);
            if (v < low) v = -v;
            return Long.toString(v);
        }

        String arrayText() {
            char type = "zbcsijfdtwo".charAt(r.nextInt(11));
            StringBuilder s = new StringBuilder().append(type);
            int n = r.nextInt(30) == 0 ? 7 : r.nextInt(5);
            for (int i = 0; i < n; i++) s.append(i > 0 ? "," : "").append(element(type));
            if (r.nextInt(4) == 0) {
                char c = "zbcsijfdtwom,*-0123456789\u00ff".charAt(r.nextInt(26));
                int at = r.nextInt(s.length() + 1);
                if (r.nextBoolean() || at == s.length()) s.insert(at, c);
                else s.setCharAt(at, c);
            }
            if (r.nextInt(10) == 0) s.setLength(r.nextInt(s.length() + 1));
            return s.toString();
        }

        void writeText() {
            due("wipe()", desk.wipe(), model.text.length());
            model.text.setLength(0);
            for (char c : arrayText().toCharArray()) write(c);
            due("fault()", desk.fault(), fault(model.text.toString()));
        }

        void write(int c) {
            int want = c < 0 || c > 255 ? -2 : model.text.length() == 60 ? -4 : model.text.append((char) c).length();
            due("write(" + c + ")", desk.write(c), want);
        }

        void texts() {
            if (r.nextInt(3) == 0) writeText();
            if (r.nextInt(20) == 0) write(r.nextInt(300) - 20);
            int s = slot();
            if (r.nextInt(3) > 0) due("tell(" + s + ")", desk.tell(s), model.tell(s));
            else due("fault()", desk.fault(), fault(model.text.toString()));
        }

        void things() {
            int s = slot();
            int t = slot();
            if (r.nextInt(6) == 0) {
                due("share(" + s + "," + t + ")", desk.share(s, t), model.share(s, t));
                return;
            }
            int thing = r.nextInt(50) == 0 ? r.nextInt(40) - 12 : r.nextInt(9) == 0 ? 13 + r.nextInt(3) : r.nextInt(13);
            int length = thing > 12 && r.nextInt(9) > 0 ? 0 : r.nextInt(40) == 0 ? r.nextInt(20) - 6 : r.nextInt(7);
            due("make(" + s + "," + thing + "," + length + ")", desk.make(s, thing, length), model.make(s, thing, length));
        }

        void hands() {
            int n;
            switch (r.nextInt(7)) {
                case 0: case 1:
                    int kind = kind();
                    long v = big();
                    int want = kind < 0 || kind > 7 ? -2 : model.hold(1, made(kind, v));
                    due("give(" + kind + "," + v + ")", desk.give(kind, v), want);
                    break;
                case 2:
                    if (r.nextInt(3) > 0) break;
                    int star = r.nextInt(20) == 0 ? r.nextInt(9) - 4 : r.nextInt(2);
                    n = number(999);
                    due("mark(" + star + "," + n + ")", desk.mark(star, n), model.mark(star, n));
                    break;
                case 3:
                    n = number(9999);
                    if (r.nextBoolean()) n = new int[] {0, 9, 10, 99, 100, 999, 1000, 9999}[r.nextInt(8)];
                    due("text(" + n + ")", desk.text(n), model.text(n));
                    break;
                case 4: case 5:
                    due("turn()", desk.turn(), model.turn());
                    break;
                default:
                    n = number(999);
                    due("grow(" + n + ")", desk.grow(n), model.grow(n));
                    break;
            }
        }

        void looks() {
            int s = slot();
            int t = slot();
            int p = place();
            int w = r.nextInt(30) == 0 ? r.nextInt(30) - 15 : r.nextInt(3);
            switch (r.nextInt(8)) {
                case 0: due("about(" + (w * 2 + s % 2) + ")", desk.about(w * 2 + s % 2), model.about(w * 2 + s % 2)); break;
                case 1: due("about(" + (p + 4) + ")", desk.about(p + 4), model.about(p + 4)); break;
                case 2: due("thing(" + s + "," + w + ")", desk.thing(s, w), model.thing(s, w)); break;
                case 3: due("same(" + s + "," + t + ")", desk.same(s, t), model.same(s, t)); break;
                case 4: case 5: due("cell(" + s + "," + p + "," + w + ")", desk.cell(s, p, w), model.cell(s, p, w)); break;
                case 6: due("hand(" + (w + s % 2) + ")", desk.hand(w + s % 2), model.hand(w + s % 2)); break;
                default: due("report(" + p + ")", desk.report(p), model.report(p)); break;
            }
        }

        void elements() {
            int s = slot();
            int p = place();
            int k = kind();
            switch (r.nextInt(5)) {
                case 0: due("take(" + s + "," + p + "," + k + ")", desk.take(s, p, k), model.take(s, p, k)); break;
                case 1: due("fetch(" + s + "," + p + ")", desk.fetch(s, p), model.fetch(s, p)); break;
                case 2: case 3: due("lay(" + s + "," + p + ")", desk.lay(s, p), model.lay(s, p)); break;
                default:
                    long x = big();
                    due("scatter(" + s + "," + x + ")", desk.scatter(s, x), model.scatter(s, x));
                    break;
            }
            due("hand(2)", desk.hand(2), model.hand(2));
        }

        int way() {
            if (r.nextInt(20) == 0) return r.nextInt(3) == 0 ? r.nextInt() : r.nextInt(1000000);
            int way = 0;
            int least = 0;
            for (int n = r.nextInt(r.nextInt(20) == 0 ? 8 : 4) + 1; n > 0; n--) {
                least += r.nextInt(8 - least);
                way = way * 10 + least + 1;
            }
            return way;
        }

        void conversions() {
            int s = slot();
            int t = slot();
            int p = place();
            int k = kind();
            switch (r.nextInt(7)) {
                case 0: case 1: case 2:
                    int how = r.nextInt(30) == 0 ? r.nextInt(20) - 8 : r.nextInt(2) == 0 ? 3 : r.nextInt(3);
                    due("convert(" + s + "," + t + "," + how + ")", desk.convert(s, t, how), model.convert(s, t, how));
                    for (int i = 0; i < 4; i++) due("report(" + i + ")", desk.report(i), model.report(i));
                    break;
                case 3:
                    int to = kind();
                    int want = k < 0 || k > 7 || to < 0 || to > 7 ? -2 : chains(k, to, null, null);
                    due("chains(" + k + "," + to + ")", desk.chains(k, to), want);
                    break;
                case 4:
                    int way = way();
                    due("carry(" + s + "," + p + "," + way + ")", desk.carry(s, p, way), model.carry(s, p, way));
                    due("hand(2)", desk.hand(2), model.hand(2));
                    break;
                case 5:
                    k = r.nextInt(2) == 0 ? 7 : k;
                    due("ends(" + s + "," + p + "," + k + ")", desk.ends(s, p, k), model.ends(s, p, k));
                    break;
                default:
                    int set = r.nextInt(20) == 0 ? r.nextInt(3000) - 1000 : 1 << r.nextInt(10) | 1 << r.nextInt(6);
                    due("least(" + set + ")", desk.least(set), model.least(set));
                    break;
            }
        }

        void wholes() {
            int s = slot();
            int t = slot();
            int u = slot();
            switch (r.nextInt(6)) {
                case 0: due("join(" + s + "," + t + "," + u + ")", desk.join(s, t, u), model.join(s, t, u)); break;
                case 1:
                    int span = r.nextInt(15) == 0 ? r.nextInt() : r.nextInt(10) == 0 ? r.nextInt(90) - 20 : r.nextInt(3) * 10 + r.nextInt(4);
                    due("cut(" + s + "," + u + "," + span + ")", desk.cut(s, u, span), model.cut(s, u, span));
                    break;
                case 2: case 3: due("alike(" + s + "," + t + ")", desk.alike(s, t), model.alike(s, t)); break;
                case 4: due("unlike(" + s + ")", desk.unlike(s), model.unlike(s)); break;
                default:
                    int k = r.nextInt(15) == 0 ? kind() : 4 + r.nextInt(2);
                    due("total(" + s + "," + k + ")", desk.total(s, k), model.total(s, k));
                    due("hand(2)", desk.hand(2), model.hand(2));
                    break;
            }
        }

        void views() {
            if (r.nextInt(6) == 0) {
                due("unsee()", desk.unsee(), model.views.size());
                model.views.clear();
            }
            int how = r.nextInt(30) == 0 ? r.nextInt(20) - 8 : r.nextInt(3);
            int reason = r.nextInt(30) == 0 ? r.nextInt(20) - 8 : new int[] {0, 0, 2, 2, 4, 4, 3, 5, 1}[r.nextInt(9)];
            int k = kind();
            due("see(" + how + "," + k + "," + reason + ")", desk.see(how, k, reason), model.see(how, k, reason));
            due("which()", desk.which(), model.which());
        }

        void state() {
            for (int s = 0; s < 10; s++) {
                int n = model.thing(s, 1);
                due("thing(" + s + ",0)", desk.thing(s, 0), model.thing(s, 0));
                due("thing(" + s + ",1)", desk.thing(s, 1), n);
                for (int p = 0; p < n; p++) {
                    due("cell(" + s + "," + p + ",0)", desk.cell(s, p, 0), model.cell(s, p, 0));
                    due("cell(" + s + "," + p + ",1)", desk.cell(s, p, 1), model.cell(s, p, 1));
                    due("cell(" + s + "," + p + ",2)", desk.cell(s, p, 2), model.cell(s, p, 2));
                }
            }
            for (int w = 0; w < 8; w++) due("about(" + w + ")", desk.about(w), model.about(w));
            for (int w = 0; w < 4; w++) due("hand(" + w + ")", desk.hand(w), model.hand(w));
        }

        void undos() {
            int most = r.nextInt(6) == 0 ? 15 : 1 + r.nextInt(2);
            for (int i = 0; i < most; i++) due("undo()", desk.undo(), model.undo());
        }

        void go() {
            // a state takes up to 212 calls, any other step up to 90
            while (calls < CALLS - 212 - 90 && !broken) {
                switch (r.nextInt(25)) {
                    case 0: texts(); break;
                    case 1: case 2: things(); break;
                    case 3: case 4: case 5: hands(); break;
                    case 6: case 7: case 8: looks(); break;
                    case 9: case 10: case 11: case 12: elements(); break;
                    case 13: case 14: case 15: case 16: conversions(); break;
                    case 17: case 18: case 19: wholes(); break;
                    case 20: views(); break;
                    case 21: undos(); break;
                    case 22: texts(); break;
                    case 23: if (calls < 30) things(); break;
                    default: looks(); break;
                }
            }
            state();
        }
    }

    public static void main(String[] args) {
        long calls = 0;
        for (int i = 0; i < RUNS; i++) {
            Run run = new Run(i);
            run.go();
            calls += run.calls;
        }
        System.out.println(calls + " calls, " + (wrong == 0 ? "all answers are as due" : wrong + " runs went wrong"));
        if (wrong != 0) System.exit(1);
    }
}
