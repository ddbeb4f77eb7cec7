import java.util.NoSuchElementException;

/** A valley whose fields are sold by the echo. The document's promises are named at each method of the face. */
public final class SoldEchoes {
    public static final int NONE = -1;

    private static final int SIDE = 10;
    private static final int CELLS = 100;
    private static final int TAPE_BYTES = 600;
    private static final int MOST_IMAGES = 3;
    private static final int MOST_LINES = 9;
    private static final int MOST_FIELDS = 5;
    private static final int MOST_SITES = 4;
    private static final int MOST_SEASONS = 4;
    private static final int MOST_SNOWS = 8;
    private static final int MOST_MAYBES = 8;
    private static final int WAYS = 8;
    private static final int ECHOES_A_WAY = 3;
    private static final int MOST_ECHOES = 24;
    private static final int MOST_FOG = 9;
    private static final int LAST_LAW = 2;
    private static final int LOUDEST_SHOUT = 99;
    private static final int LAST_TIME = 99;
    private static final int NOTES = 12;
    private static final int MOST_YEARS = 20;
    private static final int BARN_HARD = 5;

    private final byte[] tape;
    private int taped;
    private int faultPlace;
    private int cellsRefused;
    private int fieldsRefused;
    private int argumentsRefused;
    private final Plan plan;
    private final Land land;
    private final Reader reader;
    private final Land[] images;
    private int imagesKept;
    private final Shouter shouter;
    private final Market market;
    private final Builders builders;
    private final Singer singer;
    private final Bookman bookman;

    /** Promise 1. */
    public SoldEchoes() {
        tape = new byte[TAPE_BYTES];
        faultPlace = NONE;
        plan = new Plan();
        land = new Land();
        reader = new Reader(tape);
        images = new Land[MOST_IMAGES];
        for (int i = 0; i < MOST_IMAGES; i++) {
            images[i] = new Land();
        }
        shouter = new Shouter(plan, land);
        market = new Market(plan, shouter);
        builders = new Builders(plan, land, market);
        singer = new Singer(plan, shouter);
        bookman = new Bookman(plan, land, shouter);
    }

    /** Promise 2. */
    public int feed(int a, int b, int c, int d, int e) {
        if (taped + 20 > TAPE_BYTES) {
            return NONE;
        }
        putOnTape(a);
        putOnTape(b);
        putOnTape(c);
        putOnTape(d);
        putOnTape(e);
        return taped;
    }

    /** Promise 3. */
    public int valley(int n) throws IllegalArgumentException {
        needBetween(n, 0, taped);
        taped = 0;
        reader.readAll(n);
        faultPlace = reader.place;
        if (reader.fault != 0) {
            return reader.fault - 10;
        }
        plan.take(reader.plan);
        land.take(reader.land);
        imagesKept = 0;
        return plan.fields.size;
    }

    /** Promise 4. */
    public int fault() {
        return faultPlace;
    }

    /** Promise 5. */
    public int told(int what) throws IllegalArgumentException {
        needBetween(what, 0, 10);
        switch (what) {
            case 0: return plan.width;
            case 1: return plan.height;
            case 2: return plan.fields.size;
            case 3: return plan.sites.size;
            case 4: return plan.seasons.size;
            case 5: return plan.snows.size;
            case 6: return plan.maybes.size;
            case 7: return plan.loud;
            case 8: return plan.law;
            case 9: return land.years;
            default: return land.book.size;
        }
    }

    /** Promise 6. */
    public int cell(int x, int y, int what) throws IndexOutOfBoundsException, IllegalArgumentException {
        needCell(x, y);
        needBetween(what, 0, 1);
        return what == 0 ? land.hard[cellOf(x, y)] : land.wood[cellOf(x, y)];
    }

    /** Promise 7. */
    public int build(int x, int y) throws IndexOutOfBoundsException {
        needCell(x, y);
        int cell = cellOf(x, y);
        if (land.hard[cell] != 0) {
            return 0;
        }
        land.hard[cell] = BARN_HARD;
        return 1;
    }

    /** Promise 8. */
    public int fell(int x, int y) throws IndexOutOfBoundsException {
        needCell(x, y);
        int cell = cellOf(x, y);
        int thick = land.wood[cell];
        land.wood[cell] = 0;
        return thick;
    }

    /** Promise 9. */
    public int years(int n) throws IllegalArgumentException {
        needBetween(n, 0, MOST_YEARS);
        land.years = Math.min(MOST_YEARS, land.years + n);
        return land.years;
    }

    /** Promise 10. */
    public int echoes(int x, int y, int fog) throws IndexOutOfBoundsException, IllegalArgumentException {
        needCell(x, y);
        needFog(fog);
        shouter.shout(x, y, plan.loud, fog);
        return shouter.size;
    }

    /** Promise 11. */
    public int echo(int x, int y, int fog, int i, int what)
            throws IndexOutOfBoundsException, IllegalArgumentException {
        needCell(x, y);
        needFog(fog);
        needBetween(what, 0, 3);
        shouter.shout(x, y, plan.loud, fog);
        return shouter.tellEcho(i, what);
    }

    /** Promise 12. */
    public int count(int x, int y, int fog, int law) throws IndexOutOfBoundsException, IllegalArgumentException {
        needCell(x, y);
        needFog(fog);
        needLaw(law);
        shouter.shout(x, y, plan.loud, fog);
        return shouter.countBy(law);
    }

    /** Promise 13. */
    public int field(int field, int what) throws NoSuchElementException, IllegalArgumentException {
        needField(field);
        needBetween(what, 0, 4);
        return plan.fields.at(field, what);
    }

    /** Promise 14. */
    public int most(int field, int fog, int law, int what) throws NoSuchElementException, IllegalArgumentException {
        needSurvey(field, fog, law);
        needBetween(what, 0, 2);
        market.survey(field, fog, law);
        return what == 0 ? market.most : what == 1 ? market.mostX : market.mostY;
    }

    /** Promise 15. */
    public int least(int field, int fog, int law, int what) throws NoSuchElementException, IllegalArgumentException {
        needSurvey(field, fog, law);
        needBetween(what, 0, 2);
        market.survey(field, fog, law);
        return what == 0 ? market.least : what == 1 ? market.leastX : market.leastY;
    }

    /** Promise 16. */
    public int mean(int field, int fog, int law, int what) throws NoSuchElementException, IllegalArgumentException {
        needSurvey(field, fog, law);
        needBetween(what, 0, 1);
        market.survey(field, fog, law);
        return partOfFraction(market.total, market.cells, what);
    }

    /** Promise 17. */
    public int worth(int field, int fog) throws NoSuchElementException, IllegalArgumentException {
        needField(field);
        needFog(fog);
        return market.worthBy(field, fog, plan.law);
    }

    /** Promise 18. */
    public int gain(int x, int y, int field) throws IndexOutOfBoundsException, NoSuchElementException {
        needCell(x, y);
        needField(field);
        return builders.gainBy(cellOf(x, y), field);
    }

    /** Promise 19. */
    public int building(int field, int n, int what) throws NoSuchElementException, IllegalArgumentException {
        needField(field);
        needBetween(n, 0, MOST_ECHOES);
        needBetween(what, 0, 1);
        builders.findLeastBuilding(field, n);
        return what == 0 ? builders.leastCost : builders.leastSet;
    }

    /** Promise 20. */
    public int rests(int what) throws IllegalArgumentException {
        needBetween(what, 0, 1);
        builders.findRests();
        return what == 0 ? builders.restCount : builders.firstRest;
    }

    /** Promise 21. */
    public int fair(int field, int what) throws NoSuchElementException, IllegalArgumentException {
        needField(field);
        needBetween(what, 0, 1);
        return market.fairPart(field, what);
    }

    /** Promise 22. */
    public int trade(int field, int what) throws NoSuchElementException, IllegalArgumentException {
        needField(field);
        needBetween(what, 0, 1);
        return market.bestTrade(field, what);
    }

    /** Promise 23. */
    public int unlike(int law, int other) throws IllegalArgumentException {
        needLaw(law);
        needLaw(other);
        return market.unlikePairs(law, other);
    }

    /** Promise 24. */
    public int heard(int x, int y, int notes, int time) throws IndexOutOfBoundsException, IllegalArgumentException {
        needCell(x, y);
        needNotes(notes);
        needBetween(time, 0, LAST_TIME);
        singer.listen(x, y);
        return singer.strengthOfSong(notes, time);
    }

    /** Promise 25. */
    public int loudest(int x, int y, int notes, int what) throws IndexOutOfBoundsException, IllegalArgumentException {
        needCell(x, y);
        needNotes(notes);
        needBetween(what, 0, 1);
        singer.listen(x, y);
        singer.findPeak(notes);
        return what == 0 ? singer.peak : singer.peakTime;
    }

    /** Promise 26. */
    public int compose(int x, int y, int k) throws IndexOutOfBoundsException, IllegalArgumentException {
        needCell(x, y);
        needBetween(k, 1, NOTES);
        singer.listen(x, y);
        return singer.bestSong(k);
    }

    /** Promise 27. */
    public int book(int x, int y, int time, int many) throws IndexOutOfBoundsException, IllegalArgumentException {
        needCell(x, y);
        needBetween(time, 1, LAST_TIME);
        needBetween(many, 0, MOST_ECHOES);
        if (land.book.isFull()) {
            return NONE;
        }
        int line = land.book.open();
        land.book.put(line, 0, x);
        land.book.put(line, 1, y);
        land.book.put(line, 2, time);
        land.book.put(line, 3, many);
        return land.book.size;
    }

    /** Promise 28. */
    public int forget() {
        int lines = land.book.size;
        land.book.size = 0;
        return lines;
    }

    /** Promise 29. */
    public int explain(int what) throws IllegalArgumentException {
        needBetween(what, 0, 3);
        bookman.findSets();
        switch (what) {
            case 0: return bookman.sets;
            case 1: return bookman.firstSet;
            case 2: return bookman.inAll;
            default: return bookman.inNone;
        }
    }

    /** Promise 30. */
    public int ask(int what) throws IllegalArgumentException {
        needBetween(what, 0, 2);
        bookman.findQuestion();
        return what == 0 ? bookman.askX : what == 1 ? bookman.askY : bookman.askLeft;
    }

    /** Promise 31. */
    public int snows(int x, int y) throws IndexOutOfBoundsException {
        needCell(x, y);
        return shouter.snowsFalling(x, y);
    }

    /** Promise 32. */
    public int safe() {
        int safeCells = 0;
        for (int y = 0; y < plan.height; y++) {
            for (int x = 0; x < plan.width; x++) {
                if (shouter.snowsFalling(x, y) == 0) {
                    safeCells++;
                }
            }
        }
        return safeCells;
    }

    /** Promise 33. */
    public int hush(int x, int y) throws IndexOutOfBoundsException {
        needCell(x, y);
        return shouter.greatestHush(x, y);
    }

    /** Promise 34. */
    public int deaf(int field, int d) throws NoSuchElementException, IllegalArgumentException {
        needField(field);
        needBetween(d, 1, LOUDEST_SHOUT);
        return market.mostForDeaf(field, d);
    }

    /** Promise 35. */
    public int image() {
        if (imagesKept >= MOST_IMAGES) {
            return NONE;
        }
        images[imagesKept].take(land);
        imagesKept++;
        return imagesKept;
    }

    /** Promise 36. */
    public int restore() {
        if (imagesKept <= 0) {
            return NONE;
        }
        imagesKept--;
        land.take(images[imagesKept]);
        return imagesKept;
    }

    /** Promise 37. */
    public int status(int what) {
        switch (what) {
            case 0: return cellsRefused;
            case 1: return fieldsRefused;
            case 2: return argumentsRefused;
            default: return NONE;
        }
    }

    /** Promise 38. */
    public int sums(int what) {
        switch (what) {
            case 0: return imagesKept;
            case 1: return taped;
            default: return NONE;
        }
    }

    private void putOnTape(int number) {
        for (int shift = 24; shift >= 0 && taped < TAPE_BYTES; shift -= 8) {
            tape[taped] = (byte) (number >> shift);
            taped++;
        }
    }

    private void needCell(int x, int y) {
        if (x < 0 || y < 0 || x >= plan.width || y >= plan.height) {
            cellsRefused++;
            throw new IndexOutOfBoundsException("no such cell");
        }
    }

    private void needField(int field) {
        if (field < 0 || field >= plan.fields.size) {
            fieldsRefused++;
            throw new NoSuchElementException("no such field");
        }
    }

    private void needBetween(int number, int low, int high) {
        if (number < low || number > high) {
            argumentsRefused++;
            throw new IllegalArgumentException("a number that is none such");
        }
    }

    private void needFog(int fog) {
        needBetween(fog, 0, MOST_FOG);
    }

    private void needLaw(int law) {
        needBetween(law, 0, LAST_LAW);
    }

    private void needNotes(int notes) {
        needBetween(notes, 0, (1 << NOTES) - 1);
    }

    private void needSurvey(int field, int fog, int law) {
        needField(field);
        needFog(fog);
        needLaw(law);
    }

    private static int cellOf(int x, int y) {
        return y * SIDE + x;
    }

    /** What 0: above, 1: below, of above / below in least terms. */
    private static int partOfFraction(int above, int below, int what) {
        int number = what == 0 ? above : below;
        int divisor = commonDivisor(above, below);
        return divisor > 0 ? number / divisor : number;
    }

    private static int commonDivisor(int a, int b) {
        int high = a;
        int low = b;
        // Euclid's steps on ints are fewer than 48.
        for (int i = 0; i < 64 && low > 0; i++) {
            int rest = high % low;
            high = low;
            low = rest;
        }
        return high;
    }

    /** Rows of numbers, up to a limit; where a row is a place, its columns 0 and 1 are X and Y. */
    private static final class Table {
        final int[] values;
        final int columns;
        final int limit;
        int size;

        Table(int limit, int columns) {
            this.limit = limit;
            this.columns = columns;
            values = new int[limit * columns];
        }

        boolean isFull() {
            return size >= limit;
        }

        /** The number of a new row; NONE, if there is no room. */
        int open() {
            if (isFull()) {
                return NONE;
            }
            size++;
            return size - 1;
        }

        private boolean has(int row, int column) {
            return row >= 0 && row < size && column >= 0 && column < columns;
        }

        int at(int row, int column) {
            return has(row, column) ? values[row * columns + column] : 0;
        }

        void put(int row, int column, int value) {
            if (has(row, column)) {
                values[row * columns + column] = value;
            }
        }

        int cellAt(int row) {
            return cellOf(at(row, 0), at(row, 1));
        }

        /** Other is a table of the same limit and columns. */
        void take(Table other) {
            System.arraycopy(other.values, 0, values, 0, Math.min(values.length, other.values.length));
            size = other.size;
        }
    }

    /** What the text tells and no call changes, but for another text. */
    private static final class Plan {
        int width;
        int height;
        int loud;
        int law;
        final Table fields;
        final Table sites;
        final Table seasons;
        final Table snows;
        final Table maybes;

        Plan() {
            loud = 20;
            fields = new Table(MOST_FIELDS, 5);
            sites = new Table(MOST_SITES, 3);
            seasons = new Table(MOST_SEASONS, 2);
            snows = new Table(MOST_SNOWS, 3);
            maybes = new Table(MOST_MAYBES, 2);
        }

        void clear() {
            width = 0;
            height = 0;
            loud = 20;
            law = 0;
            fields.size = 0;
            sites.size = 0;
            seasons.size = 0;
            snows.size = 0;
            maybes.size = 0;
        }

        void take(Plan other) {
            width = other.width;
            height = other.height;
            loud = other.loud;
            law = other.law;
            fields.take(other.fields);
            sites.take(other.sites);
            seasons.take(other.seasons);
            snows.take(other.snows);
            maybes.take(other.maybes);
        }
    }

    /** What calls change and images keep. */
    private static final class Land {
        final int[] hard;
        final int[] wood;
        int years;
        final Table book;

        Land() {
            hard = new int[CELLS];
            wood = new int[CELLS];
            book = new Table(MOST_LINES, 4);
        }

        void clear() {
            for (int i = 0; i < CELLS; i++) {
                hard[i] = 0;
                wood[i] = 0;
            }
            years = 0;
            book.size = 0;
        }

        void take(Land other) {
            System.arraycopy(other.hard, 0, hard, 0, CELLS);
            System.arraycopy(other.wood, 0, wood, 0, CELLS);
            years = other.years;
            book.take(other.book);
        }

        /** Those places that have no face, as bits. */
        int bare(Table places) {
            int bits = 0;
            for (int row = 0; row < places.size; row++) {
                if (hard[places.cellAt(row)] == 0) {
                    bits |= 1 << row;
                }
            }
            return bits;
        }

        /** Puts faces like barns on the places of a set that have none: which ones, for lower(). */
        int raise(Table places, int set) {
            int raised = 0;
            for (int row = 0; row < places.size; row++) {
                int cell = places.cellAt(row);
                if ((set >> row & 1) != 0 && hard[cell] == 0) {
                    hard[cell] = BARN_HARD;
                    raised |= 1 << row;
                }
            }
            return raised;
        }

        void lower(Table places, int raised) {
            for (int row = 0; row < places.size; row++) {
                if ((raised >> row & 1) != 0) {
                    hard[places.cellAt(row)] = 0;
                }
            }
        }
    }

    /** Reads a text into a plan and a land of its own; what it read counts only if there was no fault. */
    private static final class Reader {
        private static final int MOST_CLAUSES = 60;
        private static final int VALLEY = 0;
        private static final int FACE = 1;
        private static final int WOOD = 2;
        private static final int SNOW = 3;
        private static final int FIELD = 4;
        private static final int SITE = 5;
        private static final int SEASON = 6;
        private static final int MAYBE = 7;
        private static final int LOUD = 8;
        private static final int LAW = 9;
        private static final int KINDS = 10;
        private static final int MISPLACED = 1;
        private static final int NO_SUCH_NUMBER = 2;
        private static final int TOO_MANY = 3;
        // Above all bounds; it keeps long numbers from wrapping around into them.
        private static final int HUGE = 1000;

        final Plan plan;
        final Land land;
        int fault;
        int place;
        private final byte[] text;
        private int length;
        private int at;

        Reader(byte[] text) {
            this.text = text;
            plan = new Plan();
            land = new Land();
            place = NONE;
        }

        void readAll(int bytes) {
            plan.clear();
            land.clear();
            fault = 0;
            place = NONE;
            at = 0;
            length = Math.min(bytes, text.length);
            // One clause more than may stand: it is refused at its word.
            for (int i = 0; i <= MOST_CLAUSES && fault == 0; i++) {
                skipBlanks();
                if (at >= length) {
                    return;
                }
                int kind = readKind(i);
                if (fault == 0) {
                    readNumbers(kind);
                    readEnd();
                }
            }
        }

        private int readKind(int clause) {
            int start = at;
            int kind = readWord();
            if (kind == NONE || (kind == VALLEY) != (clause == 0)) {
                refuse(MISPLACED, start);
            } else if (clause >= MOST_CLAUSES || isFull(kind)) {
                refuse(TOO_MANY, start);
            }
            return kind;
        }

        private void readNumbers(int kind) {
            switch (kind) {
                case VALLEY: readSize(); break;
                case FACE: readThing(land.hard); break;
                case WOOD: readThing(land.wood); break;
                case SNOW: readPlaceWith(plan.snows, 1); break;
                case FIELD: readField(); break;
                case SITE: readPlaceWith(plan.sites, 0); break;
                case SEASON: readSeason(); break;
                case MAYBE: readPlace(plan.maybes); break;
                case LOUD: plan.loud = readNumber(1, LOUDEST_SHOUT); break;
                case LAW: plan.law = readNumber(0, LAST_LAW); break;
                default: break;
            }
        }

        private boolean isFull(int kind) {
            switch (kind) {
                case SNOW: return plan.snows.isFull();
                case FIELD: return plan.fields.isFull();
                case SITE: return plan.sites.isFull();
                case SEASON: return plan.seasons.isFull();
                case MAYBE: return plan.maybes.isFull();
                default: return false;
            }
        }

        private void readSize() {
            plan.width = readNumber(2, SIDE);
            plan.height = readNumber(2, SIDE);
        }

        private void readThing(int[] things) {
            int x = readNumber(0, plan.width - 1);
            int y = readNumber(0, plan.height - 1);
            int thing = readNumber(1, 9);
            int cell = cellOf(x, y);
            if (cell >= 0 && cell < things.length) {
                things[cell] = thing;
            }
        }

        private int readPlace(Table places) {
            int row = places.open();
            places.put(row, 0, readNumber(0, plan.width - 1));
            places.put(row, 1, readNumber(0, plan.height - 1));
            return row;
        }

        private void readPlaceWith(Table places, int lowest) {
            int row = readPlace(places);
            places.put(row, 2, readNumber(lowest, 99));
        }

        private void readField() {
            Table fields = plan.fields;
            int row = readPlace(fields);
            fields.put(row, 2, readNumber(fields.at(row, 0), plan.width - 1));
            fields.put(row, 3, readNumber(fields.at(row, 1), plan.height - 1));
            fields.put(row, 4, readNumber(1, 99));
        }

        private void readSeason() {
            int row = plan.seasons.open();
            plan.seasons.put(row, 0, readNumber(0, MOST_FOG));
            plan.seasons.put(row, 1, readNumber(1, 9));
        }

        private void readEnd() {
            skipBlanks();
            if (at < length && text[at] == ';') {
                at++;
            } else {
                refuse(MISPLACED, at);
            }
        }

        /** The number that comes next; 0 behind a fault, for what is read then is thrown away. */
        private int readNumber(int low, int high) {
            skipBlanks();
            int start = at;
            int number = 0;
            while (at < length && text[at] >= '0' && text[at] <= '9') {
                number = Math.min(HUGE, number * 10 + text[at] - '0');
                at++;
            }
            if (at == start) {
                refuse(MISPLACED, start);
            } else if (number < low || number > high) {
                refuse(NO_SUCH_NUMBER, start);
            }
            return fault == 0 ? number : 0;
        }

        private int readWord() {
            int start = at;
            while (at < length && text[at] >= 'a' && text[at] <= 'z') {
                at++;
            }
            for (int kind = 0; kind < KINDS; kind++) {
                if (isWord(start, wordOf(kind))) {
                    return kind;
                }
            }
            return NONE;
        }

        /** Whether the letters from start to where the reader is are the word. */
        private boolean isWord(int start, String word) {
            if (at - start != word.length()) {
                return false;
            }
            for (int i = 0; i < word.length(); i++) {
                if (text[start + i] != word.charAt(i)) {
                    return false;
                }
            }
            return true;
        }

        private static String wordOf(int kind) {
            switch (kind) {
                case VALLEY: return "valley";
                case FACE: return "face";
                case WOOD: return "wood";
                case SNOW: return "snow";
                case FIELD: return "field";
                case SITE: return "site";
                case SEASON: return "season";
                case MAYBE: return "maybe";
                case LOUD: return "loud";
                default: return "law";
            }
        }

        private void skipBlanks() {
            while (at < length && text[at] == ' ') {
                at++;
            }
        }

        /** The first fault from the left is the one that counts. */
        private void refuse(int kind, int where) {
            if (fault == 0) {
                fault = kind;
                place = where;
            }
        }
    }

    /** Shouts, and keeps the echoes of the latest shout, by time, of one time by way. */
    private static final class Shouter {
        private static final int[] RIGHT = {1, 1, 0, -1, -1, -1, 0, 1};
        private static final int[] DOWN = {0, 1, 1, 1, 0, -1, -1, -1};
        private static final int STRONG = 10;

        int size;
        private final int[] times;
        private final int[] strengths;
        private final int[] ways;
        private final int[] numbers;
        // The greatest strength that came to each cell: kept for snow alone, for it costs time.
        private final int[] peaks;
        private boolean keepsPeaks;
        private final Plan plan;
        private final Land land;

        Shouter(Plan plan, Land land) {
            this.plan = plan;
            this.land = land;
            times = new int[MOST_ECHOES];
            strengths = new int[MOST_ECHOES];
            ways = new int[MOST_ECHOES];
            numbers = new int[MOST_ECHOES];
            peaks = new int[CELLS];
        }

        void shout(int x, int y, int strength, int fog) {
            size = 0;
            for (int way = 0; way < WAYS; way++) {
                follow(x, y, way, strength, fog);
            }
        }

        private void follow(int fromX, int fromY, int way, int loud, int fog) {
            int right = RIGHT[way];
            int down = DOWN[way];
            int x = fromX;
            int y = fromY;
            int strength = loud;
            int number = 0;
            // Each step takes 1 at least of a strength of 99 at most.
            for (int time = 1; time <= LAST_TIME; time++) {
                x += right;
                y += down;
                if (x < 0 || y < 0 || x >= plan.width || y >= plan.height) {
                    return;
                }
                int cell = y * SIDE + x;
                strength -= 1 + fog;
                if (land.wood[cell] > 0) {
                    strength -= land.wood[cell] + land.years;
                }
                if (strength < 1) {
                    return;
                }
                if (keepsPeaks && peaks[cell] < strength) {
                    peaks[cell] = strength;
                }
                if (x == fromX && y == fromY) {
                    number++;
                    addEcho(time, strength, way, number);
                    if (number == ECHOES_A_WAY) {
                        return;
                    }
                } else if (land.hard[cell] > 0) {
                    strength -= 10 - land.hard[cell];
                    if (strength < 1) {
                        return;
                    }
                    right = -right;
                    down = -down;
                }
            }
        }

        /** Ways come in their order, so an echo stands behind those of its time. */
        private void addEcho(int time, int strength, int way, int number) {
            if (size >= MOST_ECHOES) {
                return;
            }
            int spot = size;
            while (spot > 0 && times[spot - 1] > time) {
                times[spot] = times[spot - 1];
                strengths[spot] = strengths[spot - 1];
                ways[spot] = ways[spot - 1];
                numbers[spot] = numbers[spot - 1];
                spot--;
            }
            times[spot] = time;
            strengths[spot] = strength;
            ways[spot] = way;
            numbers[spot] = number;
            size++;
        }

        int tellEcho(int i, int what) {
            if (i < 0 || i >= size) {
                return NONE;
            }
            switch (what) {
                case 0: return times[i];
                case 1: return strengths[i];
                case 2: return ways[i];
                default: return numbers[i];
            }
        }

        int countBy(int law) {
            return law == 0 ? size : countTimes(law == 1 ? 0 : STRONG);
        }

        /** How many times there are at which all echoes together are so strong. */
        private int countTimes(int strong) {
            int counted = 0;
            int together = 0;
            for (int i = 0; i < size; i++) {
                together += strengths[i];
                if (i + 1 == size || times[i + 1] != times[i]) {
                    if (together >= strong) {
                        counted++;
                    }
                    together = 0;
                }
            }
            return counted;
        }

        int countStrong(int strong) {
            int counted = 0;
            for (int i = 0; i < size; i++) {
                if (strengths[i] >= strong) {
                    counted++;
                }
            }
            return counted;
        }

        int countAt(int time) {
            int counted = 0;
            for (int i = 0; i < size; i++) {
                if (times[i] == time) {
                    counted++;
                }
            }
            return counted;
        }

        int snowsFalling(int x, int y) {
            shoutForPeaks(x, y, plan.loud);
            int bits = 0;
            for (int i = 0; i < plan.snows.size; i++) {
                if (peaks[plan.snows.cellAt(i)] >= plan.snows.at(i, 2)) {
                    bits |= 1 << i;
                }
            }
            return bits;
        }

        /** A weaker shout goes the same way and is weaker by as much, so the loudest one tells of all. */
        int greatestHush(int x, int y) {
            shoutForPeaks(x, y, LOUDEST_SHOUT);
            int hush = LOUDEST_SHOUT;
            for (int i = 0; i < plan.snows.size; i++) {
                int lost = LOUDEST_SHOUT - peaks[plan.snows.cellAt(i)];
                hush = Math.min(hush, lost + plan.snows.at(i, 2) - 1);
            }
            return hush;
        }

        private void shoutForPeaks(int x, int y, int strength) {
            for (int i = 0; i < CELLS; i++) {
                peaks[i] = 0;
            }
            peaks[cellOf(x, y)] = strength;
            keepsPeaks = true;
            shout(x, y, strength, 0);
            keepsPeaks = false;
        }
    }

    /** What fields are worth. */
    private static final class Market {
        int most;
        int mostX;
        int mostY;
        int least;
        int leastX;
        int leastY;
        int total;
        int cells;
        // Of one field by seasons, or of all fields by a law.
        private final int[] worths;
        private final int[] otherWorths;
        private final Plan plan;
        private final Shouter shouter;

        Market(Plan plan, Shouter shouter) {
            this.plan = plan;
            this.shouter = shouter;
            worths = new int[Math.max(MOST_FIELDS, MOST_SEASONS)];
            otherWorths = new int[MOST_FIELDS];
        }

        void survey(int field, int fog, int law) {
            int right = plan.fields.at(field, 2);
            int bottom = plan.fields.at(field, 3);
            total = 0;
            cells = 0;
            for (int y = plan.fields.at(field, 1); y <= bottom; y++) {
                for (int x = plan.fields.at(field, 0); x <= right; x++) {
                    shouter.shout(x, y, plan.loud, fog);
                    noteCount(x, y, shouter.countBy(law));
                }
            }
        }

        private void noteCount(int x, int y, int counted) {
            if (cells == 0 || counted > most) {
                most = counted;
                mostX = x;
                mostY = y;
            }
            if (cells == 0 || counted < least) {
                least = counted;
                leastX = x;
                leastY = y;
            }
            total += counted;
            cells++;
        }

        int worthBy(int field, int fog, int law) {
            survey(field, fog, law);
            return plan.fields.at(field, 4) * most;
        }

        int mostForDeaf(int field, int strong) {
            int right = plan.fields.at(field, 2);
            int bottom = plan.fields.at(field, 3);
            int greatest = 0;
            for (int y = plan.fields.at(field, 1); y <= bottom; y++) {
                for (int x = plan.fields.at(field, 0); x <= right; x++) {
                    shouter.shout(x, y, plan.loud, 0);
                    greatest = Math.max(greatest, shouter.countStrong(strong));
                }
            }
            return greatest;
        }

        int fairPart(int field, int what) {
            if (plan.seasons.size == 0) {
                return partOfFraction(worthBy(field, 0, plan.law), 1, what);
            }
            int sum = 0;
            int allOdds = 0;
            for (int i = 0; i < plan.seasons.size; i++) {
                int odds = plan.seasons.at(i, 1);
                sum += odds * worthBy(field, plan.seasons.at(i, 0), plan.law);
                allOdds += odds;
            }
            return partOfFraction(sum, allOdds, what);
        }

        int bestTrade(int field, int what) {
            for (int season = 0; season < plan.seasons.size; season++) {
                worths[season] = worthBy(field, plan.seasons.at(season, 0), plan.law);
            }
            int best = 0;
            int pair = NONE;
            for (int bought = 0; bought < plan.seasons.size; bought++) {
                for (int sold = 0; sold < plan.seasons.size; sold++) {
                    int more = worths[sold] - worths[bought];
                    if (more > best) {
                        best = more;
                        pair = 10 * bought + sold;
                    }
                }
            }
            return what == 0 ? best : pair;
        }

        int unlikePairs(int law, int other) {
            for (int i = 0; i < plan.fields.size; i++) {
                worths[i] = worthBy(i, 0, law);
                otherWorths[i] = worthBy(i, 0, other);
            }
            int pairs = 0;
            for (int i = 0; i < plan.fields.size; i++) {
                for (int j = i + 1; j < plan.fields.size; j++) {
                    if (Integer.compare(worths[i], worths[j]) != Integer.compare(otherWorths[i], otherWorths[j])) {
                        pairs++;
                    }
                }
            }
            return pairs;
        }
    }

    /** What barns do. */
    private static final class Builders {
        private static final int MOST_ROWS = 3125;

        int leastCost;
        int leastSet;
        int restCount;
        int firstRest;
        // Of each set of sites, what each field is worth with barns on all of it.
        private final int[] worths;
        // Of each owner 0, or 1 more than his site.
        private final int[] choices;
        private int openSites;
        private final Plan plan;
        private final Land land;
        private final Market market;

        Builders(Plan plan, Land land, Market market) {
            this.plan = plan;
            this.land = land;
            this.market = market;
            worths = new int[(1 << MOST_SITES) * MOST_FIELDS];
            choices = new int[MOST_FIELDS];
        }

        int gainBy(int cell, int field) {
            if (land.hard[cell] != 0) {
                return 0;
            }
            int before = market.worthBy(field, 0, plan.law);
            land.hard[cell] = BARN_HARD;
            int after = market.worthBy(field, 0, plan.law);
            land.hard[cell] = 0;
            return after - before;
        }

        void findLeastBuilding(int field, int counted) {
            leastCost = NONE;
            leastSet = NONE;
            int open = land.bare(plan.sites);
            for (int set = 0; set < 1 << plan.sites.size; set++) {
                if ((set & ~open) != 0) {
                    continue;
                }
                int cost = costOf(set);
                // Sets come from the least on, so only a cheaper one is better.
                if ((leastSet == NONE || cost < leastCost) && mostWith(set, field) >= counted) {
                    leastCost = cost;
                    leastSet = set;
                }
            }
        }

        private int costOf(int set) {
            int cost = 0;
            for (int site = 0; site < plan.sites.size; site++) {
                if ((set >> site & 1) != 0) {
                    cost += plan.sites.at(site, 2);
                }
            }
            return cost;
        }

        private int mostWith(int set, int field) {
            int raised = land.raise(plan.sites, set);
            market.survey(field, 0, plan.law);
            land.lower(plan.sites, raised);
            return market.most;
        }

        void findRests() {
            restCount = 0;
            firstRest = NONE;
            openSites = land.bare(plan.sites);
            fillWorths();
            for (int owner = 0; owner < MOST_FIELDS; owner++) {
                choices[owner] = 0;
            }
            for (int row = 0; row < MOST_ROWS; row++) {
                if (isRest()) {
                    if (restCount == 0) {
                        firstRest = digitsOfChoices();
                    }
                    restCount++;
                }
                if (!nextRow()) {
                    return;
                }
            }
        }

        private void fillWorths() {
            for (int set = 0; set < 1 << plan.sites.size; set++) {
                if ((set & ~openSites) != 0) {
                    continue;
                }
                int raised = land.raise(plan.sites, set);
                for (int field = 0; field < plan.fields.size; field++) {
                    market.survey(field, 0, plan.law);
                    worths[set * MOST_FIELDS + field] = plan.fields.at(field, 4) * market.most;
                }
                land.lower(plan.sites, raised);
            }
        }

        private boolean isOpen(int choice) {
            return choice == 0 || (openSites >> choice - 1 & 1) != 0;
        }

        private boolean isRest() {
            for (int owner = 0; owner < plan.fields.size; owner++) {
                if (!isOpen(choices[owner])) {
                    return false;
                }
            }
            for (int owner = 0; owner < plan.fields.size; owner++) {
                if (hasBetter(owner)) {
                    return false;
                }
            }
            return true;
        }

        private boolean hasBetter(int owner) {
            int kept = choices[owner];
            int now = outcome(owner);
            boolean better = false;
            for (int choice = 0; choice <= plan.sites.size && !better; choice++) {
                if (isOpen(choice)) {
                    choices[owner] = choice;
                    better = outcome(owner) > now;
                }
            }
            choices[owner] = kept;
            return better;
        }

        private int outcome(int owner) {
            int set = 0;
            for (int other = 0; other < plan.fields.size; other++) {
                if (choices[other] > 0) {
                    set |= 1 << choices[other] - 1;
                }
            }
            int paid = choices[owner] > 0 ? plan.sites.at(choices[owner] - 1, 2) : 0;
            return worths[set * MOST_FIELDS + owner] - paid;
        }

        private int digitsOfChoices() {
            int digits = 0;
            for (int owner = 0; owner < plan.fields.size; owner++) {
                digits = digits * 10 + choices[owner];
            }
            return digits;
        }

        /** The last owner's choice goes on first; false behind the last row. */
        private boolean nextRow() {
            for (int owner = plan.fields.size - 1; owner >= 0; owner--) {
                if (choices[owner] < plan.sites.size) {
                    choices[owner]++;
                    return true;
                }
                choices[owner] = 0;
            }
            return false;
        }
    }

    /** Songs from one cell at a time. */
    private static final class Singer {
        int peak;
        int peakTime;
        // What comes back of one shout, by time.
        private final int[] strengthAt;
        private int lastTime;
        private final Plan plan;
        private final Shouter shouter;

        Singer(Plan plan, Shouter shouter) {
            this.plan = plan;
            this.shouter = shouter;
            strengthAt = new int[LAST_TIME + 1];
        }

        void listen(int x, int y) {
            for (int time = 0; time <= LAST_TIME; time++) {
                strengthAt[time] = 0;
            }
            shouter.shout(x, y, plan.loud, 0);
            lastTime = 0;
            for (int i = 0; i < shouter.size; i++) {
                int time = shouter.tellEcho(i, 0);
                if (time >= 0 && time <= LAST_TIME) {
                    strengthAt[time] += shouter.tellEcho(i, 1);
                    lastTime = time;
                }
            }
        }

        int strengthOfSong(int notes, int time) {
            int together = 0;
            for (int note = 0; note < NOTES && note <= time; note++) {
                if ((notes >> note & 1) != 0) {
                    together += strengthAt[time - note];
                }
            }
            return together;
        }

        void findPeak(int notes) {
            peak = 0;
            peakTime = 0;
            int end = Math.min(LAST_TIME, lastTime + NOTES - 1);
            for (int time = 0; time <= end; time++) {
                int together = strengthOfSong(notes, time);
                if (together > peak) {
                    peak = together;
                    peakTime = time;
                }
            }
        }

        int bestSong(int k) {
            int best = NONE;
            int greatest = NONE;
            for (int notes = 0; notes < 1 << NOTES; notes++) {
                if (Integer.bitCount(notes) == k) {
                    findPeak(notes);
                    if (peak > greatest) {
                        greatest = peak;
                        best = notes;
                    }
                }
            }
            return best;
        }
    }

    /** What the book tells of faces that may be. */
    private static final class Bookman {
        private static final int MOST_SETS = 1 << MOST_MAYBES;

        int sets;
        int firstSet;
        int inAll;
        int inNone;
        int askX;
        int askY;
        int askLeft;
        private final boolean[] explains;
        // From the cell looked at, how many echoes come with a set; NONE, where it is not known yet.
        private final int[] echoesWith;
        // From the cell looked at, by how many echoes come, how many sets let so many come.
        private final int[] tally;
        private final Plan plan;
        private final Land land;
        private final Shouter shouter;

        Bookman(Plan plan, Land land, Shouter shouter) {
            this.plan = plan;
            this.land = land;
            this.shouter = shouter;
            explains = new boolean[MOST_SETS];
            echoesWith = new int[MOST_SETS];
            tally = new int[MOST_ECHOES + 1];
        }

        void findSets() {
            int all = (1 << plan.maybes.size) - 1;
            int inSome = 0;
            sets = 0;
            firstSet = NONE;
            inAll = all;
            for (int set = 0; set <= all; set++) {
                int raised = land.raise(plan.maybes, set);
                explains[set] = bookIsSo();
                land.lower(plan.maybes, raised);
                if (explains[set]) {
                    sets++;
                    firstSet = firstSet == NONE ? set : firstSet;
                    inAll &= set;
                    inSome |= set;
                }
            }
            inAll = sets == 0 ? 0 : inAll;
            inNone = sets == 0 ? 0 : all & ~inSome;
        }

        private boolean bookIsSo() {
            Table book = land.book;
            for (int line = 0; line < book.size; line++) {
                shouter.shout(book.at(line, 0), book.at(line, 1), plan.loud, 0);
                if (shouter.countAt(book.at(line, 2)) != book.at(line, 3)) {
                    return false;
                }
            }
            return true;
        }

        void findQuestion() {
            askX = NONE;
            askY = NONE;
            askLeft = NONE;
            findSets();
            if (sets == 0) {
                return;
            }
            for (int y = 0; y < plan.height; y++) {
                for (int x = 0; x < plan.width; x++) {
                    int left = leftAtWorst(x, y);
                    if (askLeft == NONE || left < askLeft) {
                        askX = x;
                        askY = y;
                        askLeft = left;
                    }
                }
            }
        }

        private int leftAtWorst(int x, int y) {
            for (int i = 0; i <= MOST_ECHOES; i++) {
                tally[i] = 0;
            }
            for (int set = 0; set < MOST_SETS; set++) {
                echoesWith[set] = NONE;
            }
            int reached = maybesReached(x, y);
            int worst = 0;
            for (int set = 0; set < 1 << plan.maybes.size; set++) {
                if (explains[set]) {
                    int echoes = countWith(x, y, set & reached);
                    tally[echoes]++;
                    worst = Math.max(worst, tally[echoes]);
                }
            }
            return worst;
        }

        /** The maybe cells that lie in one of the ways of a cell: no other one changes what comes back to it. */
        private int maybesReached(int x, int y) {
            int bits = 0;
            for (int row = 0; row < plan.maybes.size; row++) {
                int right = Math.abs(plan.maybes.at(row, 0) - x);
                int down = Math.abs(plan.maybes.at(row, 1) - y);
                if (right == 0 || down == 0 || right == down) {
                    bits |= 1 << row;
                }
            }
            return bits;
        }

        private int countWith(int x, int y, int set) {
            if (echoesWith[set] == NONE) {
                int raised = land.raise(plan.maybes, set);
                shouter.shout(x, y, plan.loud, 0);
                land.lower(plan.maybes, raised);
                echoesWith[set] = shouter.size;
            }
            return echoesWith[set];
        }
    }
}
