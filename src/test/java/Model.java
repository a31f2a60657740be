import java.util.ArrayList;
import java.util.List;
import java.util.function.BooleanSupplier;
import java.util.function.IntConsumer;

/**
 * The document a second time, by another road: the Java machine's own faults, overridden bodies, and every way to
 * sit tried out. It is slow, and the measure for RandomRunsTest.
 */
final class Model {
    static final int UNKNOWN = -1, OUTSIDE = -2, STATE = -3, FULL = -4, NONE = -9;
    static final long LOST = Long.MIN_VALUE;

    interface Creaker {
        int number();

        Model model();

        default int creaking() {
            model().leave(4);
            return number();
        }
    }

    static class Chair implements Creaker {
        final Model model;
        final int number;
        int ear;
        int grudge;

        Chair(Model model, int number, int ear, int grudge) {
            this.model = model;
            this.number = number;
            this.ear = ear;
            this.grudge = grudge;
        }

        @Override
        public int number() {
            return number;
        }

        @Override
        public Model model() {
            return model;
        }

        int telling() {
            return chairTelling();
        }

        final int chairTelling() {
            model.leave(1);
            return grudge;
        }

        int reach() {
            return grudge;
        }
    }

    static class Bench extends Chair {
        Bench(Model model, int number, int ear, int grudge) {
            super(model, number, ear, grudge);
        }

        @Override
        int telling() {
            model.leave(2);
            return super.telling() + 100;
        }
    }

    static final class Throne extends Bench {
        Throne(Model model, int number, int ear, int grudge) {
            super(model, number, ear, grudge);
        }

        @Override
        int telling() {
            model.leave(3);
            return super.telling() + chairTelling();
        }

        @Override
        public int creaking() {
            model.leave(5);
            return 60;
        }

        @Override
        int reach() {
            return grudge + grudge;
        }
    }

    static final class Note {
        int dinner;
        final int guest;
        final int chair;
        final boolean bore;
        boolean made = true;

        Note(int dinner, int guest, int chair, boolean bore) {
            this.dinner = dinner;
            this.guest = guest;
            this.chair = chair;
            this.bore = bore;
        }
    }

    private int guests = 0;
    private final List<Chair> chairs = new ArrayList<>();
    private final List<Note> slips = new ArrayList<>();
    private final List<Note> butters = new ArrayList<>();
    private final List<Note> readings = new ArrayList<>();
    private final Object[] sheets = new Object[4];
    private int trace = 0;
    private int fault = 0;
    private int forgetful = -1;

    void leave(int body) {
        trace = trace * 31 + body;
    }

    private boolean noChair(int c) {
        return c < 0 || c >= chairs.size();
    }

    private boolean noGuest(int g) {
        return g < 0 || g >= guests;
    }

    private static boolean noDinner(int dinner) {
        return dinner < 0 || dinner > 19;
    }

    private int failed(int kind) {
        fault = kind;
        return -10 - kind;
    }

    /** The cells as ints, as the machine gives them, or a fault of its own. */
    private int[] take(int sheet, int lane, int i, int n) {
        Object row = sheets[sheet];
        int[] all;
        if (lane == 0) {
            byte[] bytes = (byte[]) row;
            all = new int[bytes.length];
            for (int k = 0; k < all.length; k++) {
                all[k] = bytes[k];
            }
        } else if (lane == 1) {
            short[] shorts = (short[]) row;
            all = new int[shorts.length];
            for (int k = 0; k < all.length; k++) {
                all[k] = shorts[k];
            }
        } else {
            all = ((int[]) row).clone();
        }
        if (n < 0) {
            throw new NegativeArraySizeException();
        }
        int[] taken = new int[Math.min(n, 100)];
        System.arraycopy(all, i, taken, 0, n);
        return taken;
    }

    private static int kindOf(RuntimeException e) {
        if (e instanceof NullPointerException) {
            return 1;
        }
        if (e instanceof ClassCastException || e instanceof ArrayStoreException) {
            return 2;
        }
        if (e instanceof IndexOutOfBoundsException) {
            return 3;
        }
        if (e instanceof NegativeArraySizeException) {
            return 4;
        }
        throw e;
    }

    int hall(int sheet, int lane, int i, int n) {
        fault = 0;
        if (sheet < 0 || sheet > 3) {
            return UNKNOWN;
        }
        if (lane < 0 || lane > 2) {
            return OUTSIDE;
        }
        int[] codes;
        try {
            codes = take(sheet, lane, i, n);
        } catch (RuntimeException e) {
            return failed(kindOf(e));
        }
        StringBuilder text = new StringBuilder();
        for (int code : codes) {
            text.append(code >= 32 && code < 127 ? (char) code : '?');
        }
        if (!text.toString().matches("z[1-5](,[cbt][0-4][0-9]){1,5}")) {
            return -100 - longestBeginning(text.toString());
        }
        guests = text.charAt(1) - '0';
        chairs.clear();
        for (String part : text.substring(3).split(",")) {
            chairs.add(chair("cbt".indexOf(part.charAt(0)), chairs.size(), part.charAt(1) - '0', part.charAt(2) - '0'));
        }
        slips.clear();
        butters.clear();
        readings.clear();
        return chairs.size();
    }

    /** How many codes are the beginning of some text: they are, if they can be filled up to one. */
    private static int longestBeginning(String text) {
        String filling = "z1,c00,c00,c00,c00,c00";
        int longest = 0;
        for (int length = 1; length <= text.length(); length++) {
            for (int end = 6; end <= 22; end += 4) {
                String filled = text.substring(0, length) + (end > length ? filling.substring(length, end) : "");
                if (filled.length() == end && filled.matches("z[1-5](,[cbt][0-4][0-9]){1,5}")) {
                    longest = length;
                }
            }
        }
        return longest;
    }

    private Chair chair(int kind, int number, int ear, int grudge) {
        switch (kind) {
            case 0:
                return new Chair(this, number, ear, grudge);
            case 1:
                return new Bench(this, number, ear, grudge);
            default:
                return new Throne(this, number, ear, grudge);
        }
    }

    private static int kindOf(Chair chair) {
        return chair instanceof Throne ? 2 : chair instanceof Bench ? 1 : 0;
    }

    int ofChair(int c, int what) {
        if (noChair(c)) {
            return UNKNOWN;
        }
        Chair chair = chairs.get(c);
        return what == 0 ? kindOf(chair) : what == 1 ? chair.ear : what == 2 ? chair.grudge : OUTSIDE;
    }

    private int note(List<Note> notes, int dinner, int g, int c, boolean bore) {
        if (noGuest(g) || noChair(c)) {
            return UNKNOWN;
        }
        if (noDinner(dinner)) {
            return OUTSIDE;
        }
        if (notes.size() == 8) {
            return FULL;
        }
        notes.add(new Note(dinner, g, c, bore));
        return notes.size() - 1;
    }

    private static int drop(List<Note> notes, int k) {
        if (k < 0 || k > notes.size()) {
            return OUTSIDE;
        }
        notes.subList(notes.size() - k, notes.size()).clear();
        return notes.size();
    }

    int slip(int dinner, int g, int c) {
        return note(slips, dinner, g, c, false);
    }

    int ofSlip(int k, int what) {
        if (k < 0 || k >= slips.size()) {
            return UNKNOWN;
        }
        Note slip = slips.get(k);
        return what == 0 ? slip.dinner : what == 1 ? slip.guest : what == 2 ? slip.chair : OUTSIDE;
    }

    int unsay(int k) {
        return drop(slips, k);
    }

    int butter(int dinner, int g, int c) {
        return note(butters, dinner, g, c, false);
    }

    int melt(int k) {
        return drop(butters, k);
    }

    private boolean minds(Chair chair, int g, int dinner) {
        if (chair.number == forgetful) {
            return false;
        }
        for (Note slip : slips) {
            boolean heard = slip.chair - chair.ear <= chair.number && chair.number <= slip.chair + chair.ear;
            boolean recent = slip.dinner < dinner && slip.dinner + chair.reach() >= dinner;
            if (slip.made && slip.guest == g && heard && recent && !forgave(chair, slip, dinner)) {
                return true;
            }
        }
        return false;
    }

    private boolean forgave(Chair chair, Note slip, int dinner) {
        for (Note butter : butters) {
            boolean his = butter.guest == slip.guest && butter.chair == chair.number;
            if (his && slip.dinner <= butter.dinner && butter.dinner < dinner) {
                return true;
            }
        }
        return false;
    }

    private boolean bearsHim(int c, int g, int dinner) {
        if (c == forgetful) {
            return true;
        }
        if (kindOf(chairs.get(c)) != 1) {
            return !minds(chairs.get(c), g, dinner);
        }
        for (Chair other : chairs) {
            if (kindOf(other) == 1 && minds(other, g, dinner)) {
                return false;
            }
        }
        return true;
    }

    int bears(int c, int g, int dinner) {
        if (noChair(c) || noGuest(g)) {
            return UNKNOWN;
        }
        return noDinner(dinner) ? OUTSIDE : bearsHim(c, g, dinner) ? 1 : 0;
    }

    int whom(int c, int dinner) {
        if (noChair(c)) {
            return UNKNOWN;
        }
        if (noDinner(dinner)) {
            return OUTSIDE;
        }
        int set = 0;
        for (int g = 0; g < guests; g++) {
            set += bearsHim(c, g, dinner) ? 1 << g : 0;
        }
        return set;
    }

    /** Every row of chairs by guests in its order (as many as there are chairs: he stands), none twice. */
    private List<int[]> rows() {
        List<int[]> rows = new ArrayList<>();
        int base = chairs.size() + 1;
        int count = 1;
        for (int g = 0; g < guests; g++) {
            count *= base;
        }
        for (int code = 0; code < count; code++) {
            int[] row = new int[guests];
            int rest = code;
            for (int g = guests - 1; g >= 0; g--) {
                row[g] = rest % base;
                rest /= base;
            }
            if (noneTwice(row)) {
                rows.add(row);
            }
        }
        return rows;
    }

    private boolean noneTwice(int[] row) {
        for (int g = 0; g < row.length; g++) {
            for (int h = 0; h < g; h++) {
                if (row[g] == row[h] && row[g] < chairs.size()) {
                    return false;
                }
            }
        }
        return true;
    }

    private boolean[][] borneTable(int dinner) {
        boolean[][] table = new boolean[guests][chairs.size()];
        for (int g = 0; g < guests; g++) {
            for (int c = 0; c < chairs.size(); c++) {
                table[g][c] = bearsHim(c, g, dinner);
            }
        }
        return table;
    }

    private int[] mostSitting(int dinner) {
        boolean[][] borne = borneTable(dinner);
        int[] best = null;
        for (int[] row : rows()) {
            boolean allowed = true;
            for (int g = 0; g < guests; g++) {
                allowed &= row[g] == chairs.size() || borne[g][row[g]];
            }
            if (allowed && (best == null || sitting(row) > sitting(best))) {
                best = row;
            }
        }
        return best;
    }

    private int sitting(int[] row) {
        int count = 0;
        for (int c : row) {
            count += c < chairs.size() ? 1 : 0;
        }
        return count;
    }

    int seats(int dinner, int g) {
        if (g != -1 && noGuest(g)) {
            return UNKNOWN;
        }
        if (noDinner(dinner)) {
            return OUTSIDE;
        }
        if (chairs.isEmpty()) {
            return STATE;
        }
        int[] best = mostSitting(dinner);
        return g == -1 ? sitting(best) : best[g] == chairs.size() ? NONE : best[g];
    }

    int few(int dinner) {
        if (noDinner(dinner)) {
            return OUTSIDE;
        }
        if (chairs.isEmpty()) {
            return STATE;
        }
        for (int size = 1; size <= guests; size++) {
            for (int set = 0; set < 1 << guests; set++) {
                int bearing = 0;
                for (int c = 0; c < chairs.size(); c++) {
                    bearing += (whom(c, dinner) & set) != 0 ? 1 : 0;
                }
                if (Integer.bitCount(set) == size && bearing < size) {
                    return set;
                }
            }
        }
        return NONE;
    }

    int tipped(int dinner, int sheet, int lane, int i, int n) {
        fault = 0;
        if (sheet < 0 || sheet > 3) {
            return UNKNOWN;
        }
        if (lane < 0 || lane > 2 || noDinner(dinner)) {
            return OUTSIDE;
        }
        int[] told;
        try {
            told = take(sheet, lane, i, n);
        } catch (RuntimeException e) {
            return failed(kindOf(e));
        }
        if (chairs.isEmpty()) {
            return STATE;
        }
        if (n > guests) {
            return OUTSIDE;
        }
        for (int c : told) {
            if (noChair(c) && c != NONE) {
                return UNKNOWN;
            }
        }
        for (int g = 0; g < n; g++) {
            boolean tips = told[g] != NONE && !bearsHim(told[g], g, dinner);
            for (int ahead = 0; ahead < g; ahead++) {
                tips |= told[g] != NONE && told[ahead] == told[g];
            }
            if (tips) {
                return g;
            }
        }
        return NONE;
    }

    int least(int dinner, int g) {
        if (g != -1 && noGuest(g)) {
            return UNKNOWN;
        }
        if (noDinner(dinner)) {
            return OUTSIDE;
        }
        if (chairs.isEmpty()) {
            return STATE;
        }
        boolean[][] borne = borneTable(dinner);
        int[] best = null;
        int fewest = 99;
        for (int[] row : rows()) {
            int given = 0;
            for (int h = 0; h < guests; h++) {
                given += row[h] == chairs.size() ? 100 : borne[h][row[h]] ? 0 : 1;
            }
            if (given < fewest) {
                fewest = given;
                best = row;
            }
        }
        return best == null ? NONE : g == -1 ? fewest : best[g];
    }

    private boolean allSit(int dinner) {
        return sitFrom(0, 0, borneTable(dinner));
    }

    private boolean sitFrom(int g, int taken, boolean[][] borne) {
        if (g == guests) {
            return true;
        }
        for (int c = 0; c < chairs.size(); c++) {
            if ((taken & 1 << c) == 0 && borne[g][c] && sitFrom(g + 1, taken | 1 << c, borne)) {
                return true;
            }
        }
        return false;
    }

    int when(int dinner) {
        if (noDinner(dinner)) {
            return OUTSIDE;
        }
        if (chairs.isEmpty()) {
            return STATE;
        }
        for (int d = dinner; d < 20; d++) {
            if (allSit(d)) {
                return d;
            }
        }
        return NONE;
    }

    int fresh(int c, int dinner) {
        if (noChair(c)) {
            return UNKNOWN;
        }
        if (noDinner(dinner)) {
            return OUTSIDE;
        }
        int before = sitting(mostSitting(dinner));
        forgetful = c;
        int after = sitting(mostSitting(dinner));
        forgetful = -1;
        return after - before;
    }

    int reading(int dinner, int c, int g, boolean bore) {
        return note(readings, dinner, g, c, bore);
    }

    int back(int k) {
        return drop(readings, k);
    }

    private int fitting(int bound, IntConsumer suppose, BooleanSupplier isSo) {
        int set = 0;
        for (int v = 0; v < bound; v++) {
            suppose.accept(v);
            set += isSo.getAsBoolean() ? 1 << v : 0;
        }
        return set;
    }

    private boolean allSo() {
        for (Note reading : readings) {
            if (bearsHim(reading.chair, reading.guest, reading.dinner) != reading.bore) {
                return false;
            }
        }
        return true;
    }

    int times(int slip) {
        if (slip < 0 || slip >= slips.size()) {
            return UNKNOWN;
        }
        Note said = slips.get(slip);
        int was = said.dinner;
        int set = fitting(20, v -> said.dinner = v, this::allSo);
        said.dinner = was;
        return set;
    }

    int grudges(int c) {
        if (noChair(c)) {
            return UNKNOWN;
        }
        Chair chair = chairs.get(c);
        int was = chair.grudge;
        int set = fitting(10, v -> chair.grudge = v, this::allSo);
        chair.grudge = was;
        return set;
    }

    int ears(int c) {
        if (noChair(c)) {
            return UNKNOWN;
        }
        Chair chair = chairs.get(c);
        int was = chair.ear;
        int set = fitting(5, v -> chair.ear = v, this::allSo);
        chair.ear = was;
        return set;
    }

    int kinds(int c) {
        if (noChair(c)) {
            return UNKNOWN;
        }
        Chair was = chairs.get(c);
        int set = fitting(3, v -> chairs.set(c, chair(v, c, was.ear, was.grudge)), this::allSo);
        chairs.set(c, was);
        return set;
    }

    long odds(int dinner, int which) {
        if (noDinner(dinner) || which < 0 || which > 1 || chairs.isEmpty()) {
            return LOST;
        }
        long all = 1L << slips.size();
        long good = 0;
        for (int made = 0; made < all; made++) {
            for (int k = 0; k < slips.size(); k++) {
                slips.get(k).made = (made & 1 << k) != 0;
            }
            good += allSit(dinner) ? 1 : 0;
        }
        for (Note slip : slips) {
            slip.made = true;
        }
        long shared = java.math.BigInteger.valueOf(good).gcd(java.math.BigInteger.valueOf(all)).longValue();
        return (which == 0 ? good : all) / shared;
    }

    int sheet(int k, int lane, int n) {
        fault = 0;
        if (k < 0 || k > 3) {
            return UNKNOWN;
        }
        if (lane < 0 || lane > 2 || n > 60) {
            return OUTSIDE;
        }
        try {
            sheets[k] = lane == 0 ? (Object) new byte[n] : lane == 1 ? (Object) new short[n] : (Object) new int[n];
            return 1;
        } catch (NegativeArraySizeException e) {
            return failed(kindOf(e));
        }
    }

    int lose(int k) {
        if (k < 0 || k > 3) {
            return UNKNOWN;
        }
        boolean had = sheets[k] != null;
        sheets[k] = null;
        return had ? 1 : 0;
    }

    int put(int k, int i, int v) {
        fault = 0;
        if (k < 0 || k > 3) {
            return UNKNOWN;
        }
        try {
            if (sheets[k] instanceof byte[] bytes) {
                bytes[i] = (byte) v;
            } else if (sheets[k] instanceof short[] shorts) {
                shorts[i] = (short) v;
            } else {
                ((int[]) sheets[k])[i] = v;
            }
            return 1;
        } catch (RuntimeException e) {
            return failed(kindOf(e));
        }
    }

    long cell(int k, int i, int lane) {
        fault = 0;
        if (k < 0 || k > 3 || lane < 0 || lane > 2) {
            return LOST;
        }
        try {
            return lane == 0 ? ((byte[]) sheets[k])[i] : lane == 1 ? ((short[]) sheets[k])[i] : ((int[]) sheets[k])[i];
        } catch (RuntimeException e) {
            failed(kindOf(e));
            return LOST;
        }
    }

    int copy(int k, int i, int other, int j, int n) {
        fault = 0;
        if (k < 0 || k > 3 || other < 0 || other > 3) {
            return UNKNOWN;
        }
        try {
            System.arraycopy(sheets[k], i, sheets[other], j, n);
            return n;
        } catch (RuntimeException e) {
            return failed(kindOf(e));
        }
    }

    int tell(int c) {
        return noChair(c) ? UNKNOWN : chairs.get(c).telling();
    }

    int creak(int c) {
        return noChair(c) ? UNKNOWN : chairs.get(c).creaking();
    }

    int as(int c, int kind) {
        fault = 0;
        if (noChair(c)) {
            return UNKNOWN;
        }
        if (kind < 0 || kind > 2) {
            return OUTSIDE;
        }
        boolean is = kind == 0 || kind == 1 && chairs.get(c) instanceof Bench || chairs.get(c) instanceof Throne;
        return is ? 1 : failed(2);
    }

    int trace() {
        return trace;
    }

    int fault() {
        return fault;
    }

    int many(int what) {
        switch (what) {
            case 0: return chairs.size();
            case 1: return guests;
            case 2: return slips.size();
            case 3: return butters.size();
            case 4: return readings.size();
            default: return OUTSIDE;
        }
    }
}
