import java.util.Arrays;

/**
 * A resolver for names in nested scopes, with imports that are passed on, ambiguous uses,
 * and renaming that is refused when a use would be captured.
 *
 * A set of declarations is held as a mask with bit d for the declaration d. Whatever may have to
 * be given up (a load, a renaming, an import left out) is done to a second set of facts, which
 * takes the first one's place only when it stands; so a refused call has nothing to undo.
 */
public final class NameScopes {
    public static final int NONE = -1;

    private static final int NAMES = 26;
    private static final int MAX_SCOPES = 16;
    private static final int MAX_DECLARATIONS = 30;
    private static final int MAX_IMPORTS = 20;
    private static final int MAX_USES = 30;
    private static final int MAX_CODES = 50;
    private static final int CELLS = MAX_SCOPES * NAMES;

    private static final int SORTS = 3;
    private static final int OF_DECLARATION = 0;
    private static final int OF_SINGLE_IMPORTS = 1;

    private static final int ALLOWED = 0;
    private static final int NO_SUCH_INDEX = 1;
    private static final int BAD_ARGUMENT = 2;
    private static final int NO_ROOM = 3;

    private static final int CLASH = 1;
    private static final int CAPTURED = 2;
    private static final int CAPTURING = 3;

    private final Text text;
    private Facts now;
    private Facts other;

    public NameScopes() {
        text = new Text();
        now = new Facts();
        other = new Facts();
    }

    // ---- building

    public int begin() {
        int scopes = now.scopes;
        now.reset();
        now.settle();
        return scopes;
    }

    public int addScope(int parent) throws IndexOutOfBoundsException, IllegalStateException {
        throwIfRefused(now.refusalOfScope(parent));
        int number = now.putScope(parent);
        now.settle();
        return number;
    }

    public int declare(int scope, int name, boolean isPublic)
            throws IndexOutOfBoundsException, IllegalArgumentException, IllegalStateException {
        throwIfRefused(now.refusalOfDeclaration(scope, name));
        int number = now.putDeclaration(scope, name, isPublic ? 1 : 0);
        now.settle();
        return number;
    }

    public int importOne(int into, int from, int source, int local, boolean passed)
            throws IndexOutOfBoundsException, IllegalArgumentException, IllegalStateException {
        throwIfRefused(now.refusalOfImport(into, from, isName(source) && isName(local)));
        int number = now.putImport(into, from, source, local, 0, passed ? 1 : 0);
        now.settle();
        return number;
    }

    public int importAll(int into, int from, int excepted, boolean passed)
            throws IndexOutOfBoundsException, IllegalArgumentException, IllegalStateException {
        throwIfRefused(now.refusalOfImport(into, from, excepted >= 0 && excepted < 1 << NAMES));
        int number = now.putImport(into, from, NONE, NONE, excepted, passed ? 1 : 0);
        now.settle();
        return number;
    }

    public int use(int scope, int name)
            throws IndexOutOfBoundsException, IllegalArgumentException, IllegalStateException {
        throwIfRefused(now.refusalOfUse(scope, name));
        int number = now.putUse(scope, name);
        now.settle();
        return number;
    }

    public int remove(int sort, int number) throws IllegalArgumentException, IndexOutOfBoundsException {
        needBelow(sort, 3);
        needIndex(number, sort == 0 ? now.declarations : sort == 1 ? now.imports : now.uses);
        switch (sort) {
            case 0:
                return removeDeclaration(number);
            case 1:
                return removeImport(number);
            default:
                now.dropUse(number);
                now.settle();
                return 0;
        }
    }

    // ---- texts

    public int append(int code) throws IllegalArgumentException, IllegalStateException {
        if (code < 33 || code > 126) {
            throw new IllegalArgumentException("the code is not 33 to 126");
        }
        if (text.length >= MAX_CODES) {
            throw new IllegalStateException("the buffer is full");
        }
        return text.put(code);
    }

    public int clearBuffer() {
        int length = text.length;
        text.length = 0;
        return length;
    }

    public int firstError() {
        return text.firstWrong();
    }

    public int load() throws IllegalArgumentException, IllegalStateException {
        if (!text.isComplete()) {
            throw new IllegalArgumentException("the buffer is not a complete text");
        }
        other.copyFrom(now);
        int items = text.putItems(other);
        if (items == NONE) {
            throw new IllegalStateException("an item cannot be added");
        }
        other.settle();
        exchange();
        text.length = 0;
        return items;
    }

    // ---- resolving

    public int resolve(int scope, int name, int what)
            throws IndexOutOfBoundsException, IllegalArgumentException {
        needIndex(scope, now.scopes);
        needBelow(name, NAMES);
        needBelow(what, 5);
        int place = now.placeOfLayer(scope, name, 0);
        switch (what) {
            case 0:
                return onlyOne(now.firstLayer(scope, name));
            case 1:
                return Integer.bitCount(now.firstLayer(scope, name));
            case 2:
                return place == NONE ? NONE : place % SORTS;
            case 3:
                return place == NONE ? NONE : place / SORTS;
            default:
                return Math.max(0, now.layersOf(scope, name) - 1);
        }
    }

    public int candidate(int scope, int name, int layer, int index)
            throws IndexOutOfBoundsException, IllegalArgumentException {
        needIndex(scope, now.scopes);
        needBelow(name, NAMES);
        int place = layer < 0 ? NONE : now.placeOfLayer(scope, name, layer);
        return place == NONE ? NONE : nthOf(now.layerAt(scope, name, place), index);
    }

    public int offers(int scope, int name) throws IndexOutOfBoundsException, IllegalArgumentException {
        needIndex(scope, now.scopes);
        needBelow(name, NAMES);
        return Integer.bitCount(now.layers.offered[scope * NAMES + name]);
    }

    public int visible(int scope, boolean ambiguous) throws IndexOutOfBoundsException {
        needIndex(scope, now.scopes);
        int names = 0;
        for (int name = 0; name < NAMES; name++) {
            int size = Integer.bitCount(now.firstLayer(scope, name));
            if (ambiguous ? size > 1 : size == 1) {
                names |= 1 << name;
            }
        }
        return names;
    }

    // ---- renaming

    public int rename(int declaration, int name)
            throws IndexOutOfBoundsException, IllegalArgumentException {
        needIndex(declaration, now.declarations);
        needBelow(name, NAMES);
        int reason = reasonAgainst(declaration, name);
        if (reason == 0) {
            exchange();
        }
        return reason;
    }

    public int ifRenamed(int declaration, int name, int what)
            throws IndexOutOfBoundsException, IllegalArgumentException {
        needIndex(declaration, now.declarations);
        needBelow(name, NAMES);
        needBelow(what, 3);
        if (what == 2) {
            return usesToRename(declaration);
        }
        int reason = reasonAgainst(declaration, name);
        if (what == 0) {
            return reason;
        }
        return reason == CAPTURED || reason == CAPTURING
                ? firstChanged(declaration, reason == CAPTURED) : NONE;
    }

    public int freeName(int declaration) throws IndexOutOfBoundsException {
        needIndex(declaration, now.declarations);
        for (int name = 0; name < NAMES; name++) {
            if (reasonAgainst(declaration, name) == 0) {
                return name;
            }
        }
        return NONE;
    }

    // ---- questions

    public int count(int what) throws IllegalArgumentException {
        needBelow(what, 11);
        switch (what) {
            case 0:
                return now.scopes;
            case 1:
                return now.declarations;
            case 2:
                return now.imports;
            case 3:
                return now.uses;
            case 4:
                return now.usesInState(0);
            case 5:
                return now.usesInState(2) + now.usesInState(3);
            case 6:
                return now.unusedDeclarations();
            case 7:
                return importsWithoutLoss();
            case 8:
                return now.vainSingleImports();
            case 9:
                return now.greatestDepth();
            default:
                return now.pairsOffered();
        }
    }

    public int declaration(int declaration, int what)
            throws IndexOutOfBoundsException, IllegalArgumentException {
        needIndex(declaration, now.declarations);
        needBelow(what, 6);
        switch (what) {
            case 0:
                return now.declScope[declaration];
            case 1:
                return now.declName[declaration];
            case 2:
                return now.declPublic[declaration];
            case 3:
                return now.usesResolvedTo(declaration);
            case 4:
                return now.scopesThatOffer(declaration);
            default:
                return now.scopesThatSee(declaration);
        }
    }

    public int imported(int number, int what)
            throws IndexOutOfBoundsException, IllegalArgumentException {
        needIndex(number, now.imports);
        needBelow(what, 8);
        switch (what) {
            case 0:
                return now.into[number];
            case 1:
                return now.from[number];
            case 2:
                return now.source[number];
            case 3:
                return now.local[number];
            case 4:
                return now.excepted[number];
            case 5:
                return now.passed[number];
            case 6:
                return now.pairsBrought(number);
            default:
                return lossWithout(number);
        }
    }

    public int used(int number, int what) throws IndexOutOfBoundsException, IllegalArgumentException {
        needIndex(number, now.uses);
        needBelow(what, 4);
        switch (what) {
            case 0:
                return now.useScope[number];
            case 1:
                return now.useName[number];
            case 2:
                return onlyOne(now.outcome(number));
            default:
                return now.stateOfUse(number);
        }
    }

    public int parent(int scope) throws IndexOutOfBoundsException {
        needIndex(scope, now.scopes);
        return now.parents[scope];
    }

    public double resolvedShare() {
        return now.uses == 0 ? 1.0 : (double) now.usesInState(0) / now.uses;
    }

    public long digest() {
        long hash = 1997;
        for (int what = 0; what <= 10; what++) {
            hash = 31 * hash + count(what);
        }
        for (int scope = 0; scope < now.scopes; scope++) {
            hash = 31 * hash + parent(scope);
            hash = 31 * hash + visible(scope, false);
            hash = 31 * hash + visible(scope, true);
        }
        for (int d = 0; d < now.declarations; d++) {
            for (int what = 0; what <= 5; what++) {
                hash = 31 * hash + declaration(d, what);
            }
        }
        for (int i = 0; i < now.imports; i++) {
            for (int what = 0; what <= 7; what++) {
                hash = 31 * hash + imported(i, what);
            }
        }
        for (int u = 0; u < now.uses; u++) {
            for (int what = 0; what <= 3; what++) {
                hash = 31 * hash + used(u, what);
            }
        }
        hash = 31 * hash + text.length;
        for (int at = 0; at < text.length; at++) {
            hash = 31 * hash + text.codeAt(at);
        }
        return hash;
    }

    // ---- arguments

    private static boolean isName(int name) {
        return name >= 0 && name < NAMES;
    }

    private static void needIndex(int number, int count) {
        if (number < 0 || number >= count) {
            throw new IndexOutOfBoundsException("there is no such number");
        }
    }

    private static void needBelow(int value, int limit) {
        if (value < 0 || value >= limit) {
            throw new IllegalArgumentException("an argument is out of range");
        }
    }

    private static void throwIfRefused(int refusal) {
        if (refusal == NO_SUCH_INDEX) {
            throw new IndexOutOfBoundsException("a scope does not exist");
        }
        if (refusal == BAD_ARGUMENT) {
            throw new IllegalArgumentException("an argument is out of range or already taken");
        }
        if (refusal == NO_ROOM) {
            throw new IllegalStateException("there is no room for another one");
        }
    }

    // ---- masks of declarations

    private static int onlyOne(int mask) {
        return Integer.bitCount(mask) == 1 ? Integer.bitCount(mask - 1) : NONE;
    }

    private static int nthOf(int mask, int index) {
        int before = 0;
        for (int d = 0; d < MAX_DECLARATIONS; d++) {
            if ((mask >> d & 1) != 0) {
                if (before == index) {
                    return d;
                }
                before++;
            }
        }
        return NONE;
    }

    // ---- comparing the facts with the other ones

    private void exchange() {
        Facts former = now;
        now = other;
        other = former;
    }

    /** How many uses would have another outcome without an import; finding it out changes the other facts. */
    private int lossWithout(int number) {
        if (now.losses[number] == NONE) {
            int loss = 0;
            if (now.uses > 0 && now.pairsBrought(number) > 0) {
                other.copyFrom(now);
                other.dropImport(number);
                other.settle();
                for (int u = 0; u < now.uses; u++) {
                    loss += now.outcome(u) == other.outcome(u) ? 0 : 1;
                }
            }
            now.losses[number] = loss;
        }
        return now.losses[number];
    }

    private int importsWithoutLoss() {
        int found = 0;
        for (int i = 0; i < now.imports; i++) {
            found += lossWithout(i) == 0 ? 1 : 0;
        }
        return found;
    }

    private int removeImport(int number) {
        int changed = lossWithout(number);
        now.dropImport(number);
        now.settle();
        return changed;
    }

    private int removeDeclaration(int number) {
        other.copyFrom(now);
        other.dropDeclaration(number);
        other.settle();
        int changed = 0;
        int lower = (1 << number) - 1;
        for (int u = 0; u < now.uses; u++) {
            int before = now.outcome(u);
            // the later declarations have moved down by one, and so do their bits
            int renumbered = (before & lower) | ((before >> 1) & ~lower);
            boolean lost = (before >> number & 1) != 0;
            changed += lost || renumbered != other.outcome(u) ? 1 : 0;
        }
        exchange();
        return changed;
    }

    /** Why a renaming is refused, or 0; unless it is a clash, the other facts are the renamed ones. */
    private int reasonAgainst(int declaration, int name) {
        int scope = now.declScope[declaration];
        if (now.layers.own[scope * NAMES + name] != 0) {
            return CLASH;
        }
        other.copyFrom(now);
        other.giveName(declaration, name, now);
        other.settle();
        if (firstChanged(declaration, true) != NONE) {
            return CAPTURED;
        }
        return firstChanged(declaration, false) != NONE ? CAPTURING : 0;
    }

    /** The lowest use with another outcome in the other facts, of those resolved to a declaration or of the rest. */
    private int firstChanged(int declaration, boolean resolvedToIt) {
        for (int u = 0; u < now.uses; u++) {
            int before = now.outcome(u);
            boolean wasResolvedToIt = before == 1 << declaration;
            if (wasResolvedToIt == resolvedToIt && before != other.outcome(u)) {
                return u;
            }
        }
        return NONE;
    }

    private int usesToRename(int declaration) {
        int found = 0;
        for (int u = 0; u < now.uses; u++) {
            found += now.followsRenaming(u, declaration) ? 1 : 0;
        }
        return found;
    }

    /** What has been told. After a change, settle() brings the layers up to date. */
    private static final class Facts {
        private int scopes = 1;
        private final int[] parents = new int[MAX_SCOPES];
        private int declarations = 0;
        private final int[] declScope = new int[MAX_DECLARATIONS];
        private final int[] declName = new int[MAX_DECLARATIONS];
        private final int[] declPublic = new int[MAX_DECLARATIONS];
        private int imports = 0;
        private final int[] into = new int[MAX_IMPORTS];
        private final int[] from = new int[MAX_IMPORTS];
        private final int[] source = new int[MAX_IMPORTS];
        private final int[] local = new int[MAX_IMPORTS];
        private final int[] excepted = new int[MAX_IMPORTS];
        private final int[] passed = new int[MAX_IMPORTS];
        private int uses = 0;
        private final int[] useScope = new int[MAX_USES];
        private final int[] useName = new int[MAX_USES];
        /** The answers of lossWithout, NONE where it has not been asked since the last change. */
        private final int[] losses = new int[MAX_IMPORTS];
        private final Layers layers = new Layers();

        Facts() {
            parents[0] = NONE;
        }

        void reset() {
            scopes = 1;
            declarations = 0;
            imports = 0;
            uses = 0;
        }

        void copyFrom(Facts model) {
            scopes = model.scopes;
            System.arraycopy(model.parents, 0, parents, 0, scopes);
            declarations = model.declarations;
            System.arraycopy(model.declScope, 0, declScope, 0, declarations);
            System.arraycopy(model.declName, 0, declName, 0, declarations);
            System.arraycopy(model.declPublic, 0, declPublic, 0, declarations);
            imports = model.imports;
            System.arraycopy(model.into, 0, into, 0, imports);
            System.arraycopy(model.from, 0, from, 0, imports);
            System.arraycopy(model.source, 0, source, 0, imports);
            System.arraycopy(model.local, 0, local, 0, imports);
            System.arraycopy(model.excepted, 0, excepted, 0, imports);
            System.arraycopy(model.passed, 0, passed, 0, imports);
            uses = model.uses;
            System.arraycopy(model.useScope, 0, useScope, 0, uses);
            System.arraycopy(model.useName, 0, useName, 0, uses);
        }

        void settle() {
            Arrays.fill(losses, NONE);
            layers.clear();
            layers.placeDeclarations(this);
            layers.passOnAll(this);
            layers.bringAll(this);
        }

        // adding

        boolean hasScope(int scope) {
            return scope >= 0 && scope < scopes;
        }

        int refusalOfScope(int above) {
            if (!hasScope(above)) {
                return NO_SUCH_INDEX;
            }
            return scopes >= MAX_SCOPES ? NO_ROOM : ALLOWED;
        }

        int putScope(int above) {
            parents[scopes] = above;
            return scopes++;
        }

        int refusalOfDeclaration(int scope, int name) {
            if (!hasScope(scope)) {
                return NO_SUCH_INDEX;
            }
            if (!isName(name) || declares(scope, name)) {
                return BAD_ARGUMENT;
            }
            return declarations >= MAX_DECLARATIONS ? NO_ROOM : ALLOWED;
        }

        /** Asks the rows and not the layers, which lag behind while the items of a text are added. */
        private boolean declares(int scope, int name) {
            for (int d = 0; d < declarations; d++) {
                if (declScope[d] == scope && declName[d] == name) {
                    return true;
                }
            }
            return false;
        }

        int putDeclaration(int scope, int name, int isPublic) {
            declScope[declarations] = scope;
            declName[declarations] = name;
            declPublic[declarations] = isPublic;
            return declarations++;
        }

        int refusalOfImport(int target, int origin, boolean namesAreFine) {
            if (!hasScope(target) || !hasScope(origin)) {
                return NO_SUCH_INDEX;
            }
            if (target == origin || !namesAreFine) {
                return BAD_ARGUMENT;
            }
            return imports >= MAX_IMPORTS ? NO_ROOM : ALLOWED;
        }

        int putImport(int target, int origin, int sourceName, int localName, int exceptedNames, int isPassed) {
            into[imports] = target;
            from[imports] = origin;
            source[imports] = sourceName;
            local[imports] = localName;
            excepted[imports] = exceptedNames;
            passed[imports] = isPassed;
            return imports++;
        }

        int refusalOfUse(int scope, int name) {
            if (!hasScope(scope)) {
                return NO_SUCH_INDEX;
            }
            if (!isName(name)) {
                return BAD_ARGUMENT;
            }
            return uses >= MAX_USES ? NO_ROOM : ALLOWED;
        }

        int putUse(int scope, int name) {
            useScope[uses] = scope;
            useName[uses] = name;
            return uses++;
        }

        // removing

        private static void closeGap(int[] row, int at, int count) {
            System.arraycopy(row, at + 1, row, at, count - at - 1);
        }

        void dropDeclaration(int number) {
            closeGap(declScope, number, declarations);
            closeGap(declName, number, declarations);
            closeGap(declPublic, number, declarations);
            declarations--;
        }

        void dropImport(int number) {
            closeGap(into, number, imports);
            closeGap(from, number, imports);
            closeGap(source, number, imports);
            closeGap(local, number, imports);
            closeGap(excepted, number, imports);
            closeGap(passed, number, imports);
            imports--;
        }

        void dropUse(int number) {
            closeGap(useScope, number, uses);
            closeGap(useName, number, uses);
            uses--;
        }

        // renaming

        /** Renames a declaration here; what was offered and resolved is asked of the facts before. */
        void giveName(int declaration, int name, Facts before) {
            int old = declName[declaration];
            for (int i = 0; i < imports; i++) {
                boolean offeredThere = (before.layers.offered[from[i] * NAMES + old] >> declaration & 1) != 0;
                if (offeredThere && source[i] == old) {
                    source[i] = name;
                    local[i] = local[i] == old ? name : local[i];
                } else if (offeredThere && (excepted[i] >> old & 1) != 0) {
                    excepted[i] |= 1 << name;
                }
            }
            for (int u = 0; u < uses; u++) {
                if (before.followsRenaming(u, declaration)) {
                    useName[u] = name;
                }
            }
            declName[declaration] = name;
        }

        /** Whether a use gets the new name when a declaration is renamed. */
        boolean followsRenaming(int use, int declaration) {
            return useName[use] == declName[declaration] && outcome(use) == 1 << declaration;
        }

        // resolving

        /** The declarations of the first layer; none if there is no layer. */
        int firstLayer(int scope, int name) {
            int at = scope;
            for (int steps = 0; steps < MAX_SCOPES && at != NONE; steps++) {
                int cell = at * NAMES + name;
                if (layers.own[cell] != 0) {
                    return layers.own[cell];
                }
                if (layers.single[cell] != 0) {
                    return layers.single[cell];
                }
                if (layers.full[cell] != 0) {
                    return layers.full[cell];
                }
                at = parents[at];
            }
            return 0;
        }

        /** The place of a layer, which tells its steps (times SORTS) and its sort; NONE if there is no such layer. */
        int placeOfLayer(int scope, int name, int layer) {
            int before = 0;
            int at = scope;
            for (int place = 0; place < MAX_SCOPES * SORTS && at != NONE; place++) {
                if (layers.ofSort(place % SORTS, at * NAMES + name) != 0) {
                    if (before == layer) {
                        return place;
                    }
                    before++;
                }
                at = place % SORTS == SORTS - 1 ? parents[at] : at;
            }
            return NONE;
        }

        int layersOf(int scope, int name) {
            int found = 0;
            int at = scope;
            for (int place = 0; place < MAX_SCOPES * SORTS && at != NONE; place++) {
                found += layers.ofSort(place % SORTS, at * NAMES + name) != 0 ? 1 : 0;
                at = place % SORTS == SORTS - 1 ? parents[at] : at;
            }
            return found;
        }

        int layerAt(int scope, int name, int place) {
            int at = scope;
            for (int steps = 0; steps < place / SORTS && at != NONE; steps++) {
                at = parents[at];
            }
            return at == NONE ? 0 : layers.ofSort(place % SORTS, at * NAMES + name);
        }

        int outcome(int use) {
            return firstLayer(useScope[use], useName[use]);
        }

        /** 0 if resolved, 1 if unresolved, 2 or 3 if ambiguous by single or by full imports. */
        int stateOfUse(int use) {
            int size = Integer.bitCount(outcome(use));
            if (size < 2) {
                return 1 - size;
            }
            int place = placeOfLayer(useScope[use], useName[use], 0);
            return place % SORTS == OF_SINGLE_IMPORTS ? 2 : 3;
        }

        // counting

        int usesInState(int state) {
            int found = 0;
            for (int u = 0; u < uses; u++) {
                found += stateOfUse(u) == state ? 1 : 0;
            }
            return found;
        }

        int usesResolvedTo(int declaration) {
            int found = 0;
            for (int u = 0; u < uses; u++) {
                found += outcome(u) == 1 << declaration ? 1 : 0;
            }
            return found;
        }

        int unusedDeclarations() {
            int reached = 0;
            for (int u = 0; u < uses; u++) {
                int mask = outcome(u);
                reached |= Integer.bitCount(mask) == 1 ? mask : 0;
            }
            return declarations - Integer.bitCount(reached);
        }

        int pairsBrought(int number) {
            int row = from[number] * NAMES;
            if (source[number] != NONE) {
                return Integer.bitCount(layers.offered[row + source[number]]);
            }
            int pairs = 0;
            for (int name = 0; name < NAMES; name++) {
                if ((excepted[number] >> name & 1) == 0) {
                    pairs += Integer.bitCount(layers.offered[row + name]);
                }
            }
            return pairs;
        }

        int vainSingleImports() {
            int found = 0;
            for (int i = 0; i < imports; i++) {
                found += source[i] != NONE && pairsBrought(i) == 0 ? 1 : 0;
            }
            return found;
        }

        int greatestDepth() {
            int greatest = 0;
            for (int scope = 0; scope < scopes; scope++) {
                int at = parents[scope];
                int depth = 0;
                while (depth < MAX_SCOPES && at != NONE) {
                    at = parents[at];
                    depth++;
                }
                greatest = Math.max(greatest, depth);
            }
            return greatest;
        }

        int pairsOffered() {
            int pairs = 0;
            for (int cell = 0; cell < scopes * NAMES; cell++) {
                pairs += Integer.bitCount(layers.offered[cell]);
            }
            return pairs;
        }

        int scopesThatOffer(int declaration) {
            int found = 0;
            for (int scope = 0; scope < scopes; scope++) {
                int some = 0;
                for (int name = 0; name < NAMES; name++) {
                    some |= layers.offered[scope * NAMES + name];
                }
                found += some >> declaration & 1;
            }
            return found;
        }

        int scopesThatSee(int declaration) {
            int found = 0;
            for (int scope = 0; scope < scopes; scope++) {
                found += firstLayer(scope, declName[declaration]) == 1 << declaration ? 1 : 0;
            }
            return found;
        }
    }

    /** What follows from the facts: for each cell, a scope and a name, what is offered and its three layers. */
    private static final class Layers {
        private final int[] offered = new int[CELLS];
        private final int[] own = new int[CELLS];
        private final int[] single = new int[CELLS];
        private final int[] full = new int[CELLS];
        /** The names with a cell that is not empty, so that the others need not be looked at. */
        private final int[] offeredNames = new int[MAX_SCOPES];
        private final int[] ownNames = new int[MAX_SCOPES];

        int ofSort(int sort, int cell) {
            if (sort == OF_DECLARATION) {
                return own[cell];
            }
            return sort == OF_SINGLE_IMPORTS ? single[cell] : full[cell];
        }

        void clear() {
            Arrays.fill(offered, 0);
            Arrays.fill(own, 0);
            Arrays.fill(single, 0);
            Arrays.fill(full, 0);
            Arrays.fill(offeredNames, 0);
            Arrays.fill(ownNames, 0);
        }

        void placeDeclarations(Facts facts) {
            for (int d = 0; d < facts.declarations; d++) {
                int scope = facts.declScope[d];
                int name = facts.declName[d];
                own[scope * NAMES + name] = 1 << d;
                ownNames[scope] |= 1 << name;
                if (facts.declPublic[d] != 0) {
                    offered[scope * NAMES + name] = 1 << d;
                    offeredNames[scope] |= 1 << name;
                }
            }
        }

        /** Passes pairs on from scopes that have grown; each round but the last adds a pair, so circles end, too. */
        void passOnAll(Facts facts) {
            int grown = (1 << MAX_SCOPES) - 1;
            for (int round = 0; round <= CELLS * MAX_DECLARATIONS && grown != 0; round++) {
                int growing = 0;
                for (int i = 0; i < facts.imports; i++) {
                    boolean isDue = ((grown | growing) >> facts.from[i] & 1) != 0;
                    if (isDue && facts.passed[i] != 0 && passOn(facts, i)) {
                        growing |= 1 << facts.into[i];
                    }
                }
                grown = growing;
            }
        }

        /** Passes on what one import brings, but for the names that its scope declares; tells whether that is new. */
        private boolean passOn(Facts facts, int number) {
            int into = facts.into[number];
            int from = facts.from[number];
            int source = facts.source[number];
            int names = offeredNames[from] & (source != NONE ? 1 << source : ~facts.excepted[number]);
            boolean grew = false;
            for (int name = 0; name < NAMES && names >> name != 0; name++) {
                int target = source != NONE ? facts.local[number] : name;
                if ((names >> name & 1) != 0 && (ownNames[into] >> target & 1) == 0) {
                    int cell = into * NAMES + target;
                    int before = offered[cell];
                    offered[cell] |= offered[from * NAMES + name];
                    offeredNames[into] |= 1 << target;
                    grew |= offered[cell] != before;
                }
            }
            return grew;
        }

        void bringAll(Facts facts) {
            for (int i = 0; i < facts.imports; i++) {
                int target = facts.into[i] * NAMES;
                int row = facts.from[i] * NAMES;
                if (facts.source[i] != NONE) {
                    single[target + facts.local[i]] |= offered[row + facts.source[i]];
                    continue;
                }
                int names = offeredNames[facts.from[i]] & ~facts.excepted[i];
                for (int name = 0; name < NAMES && names >> name != 0; name++) {
                    if ((names >> name & 1) != 0) {
                        full[target + name] |= offered[row + name];
                    }
                }
            }
        }
    }

    /** The buffer, with the automaton that reads it: a state tells what may come next. */
    private static final class Text {
        private static final int WRONG = 0;
        private static final int START = 1;
        private static final int SCOPE = 2;
        private static final int LAST_NAME = 3;
        private static final int END = 4;
        private static final int ARROW = 5;
        private static final int DOUBLE_ARROW = 6;
        private static final int FROM = 7;
        private static final int SOURCE = 8;
        private static final int SOURCE_END = 9;
        private static final int EXCEPTED = 10;
        private static final int EXCEPTED_END = 11;

        private final int[] codes = new int[MAX_CODES];
        private int length = 0;

        int put(int code) {
            if (length < MAX_CODES) {
                codes[length] = code;
                length++;
            }
            return length;
        }

        /** The code at an index; 0, which is no code, where there is none. */
        int codeAt(int index) {
            return index >= 0 && index < length ? codes[index] : 0;
        }

        int firstWrong() {
            int state = START;
            for (int at = 0; at < length; at++) {
                state = after(state, codes[at]);
                if (state == WRONG) {
                    return at;
                }
            }
            return length;
        }

        boolean isComplete() {
            int state = START;
            for (int at = 0; at < length; at++) {
                state = after(state, codes[at]);
            }
            return state == END || state == FROM || state == SOURCE_END || state == EXCEPTED_END;
        }

        private static int after(int state, int code) {
            boolean isScope = code >= 'A' && code <= 'P';
            boolean isLetter = code >= 'a' && code <= 'z';
            switch (state) {
                case START:
                    return isScope ? SCOPE : WRONG;
                case SCOPE:
                    return afterScope(code);
                case LAST_NAME:
                    return isLetter ? END : WRONG;
                case END:
                    return code == ',' ? START : WRONG;
                case ARROW:
                    return code == '<' ? DOUBLE_ARROW : isScope ? FROM : WRONG;
                case DOUBLE_ARROW:
                    return isScope ? FROM : WRONG;
                case FROM:
                    return code == '.' ? SOURCE : code == '/' ? EXCEPTED : code == ',' ? START : WRONG;
                case SOURCE:
                    return isLetter ? SOURCE_END : WRONG;
                case SOURCE_END:
                    return code == '=' ? LAST_NAME : code == ',' ? START : WRONG;
                case EXCEPTED:
                    return isLetter ? EXCEPTED_END : WRONG;
                case EXCEPTED_END:
                    return isLetter ? EXCEPTED_END : code == ',' ? START : WRONG;
                default:
                    return WRONG;
            }
        }

        private static int afterScope(int code) {
            switch (code) {
                case '^':
                    return END;
                case '.':
                case '-':
                case '?':
                    return LAST_NAME;
                case '<':
                    return ARROW;
                default:
                    return WRONG;
            }
        }

        /** Adds the items of a complete text; their number, or NONE as soon as one cannot be added. */
        int putItems(Facts facts) {
            int items = 0;
            int start = 0;
            for (int at = 0; at <= length; at++) {
                if (at == length || codes[at] == ',') {
                    if (putItem(facts, start) != ALLOWED) {
                        return NONE;
                    }
                    items++;
                    start = at + 1;
                }
            }
            return items;
        }

        /** Adds an item if it is not refused; the refusal. */
        private int putItem(Facts facts, int start) {
            int scope = codeAt(start) - 'A';
            int sign = codeAt(start + 1);
            int name = codeAt(start + 2) - 'a';
            if (sign == '<') {
                return putImportItem(facts, scope, start + 2);
            }
            int refusal = sign == '^' ? facts.refusalOfScope(scope)
                    : sign == '?' ? facts.refusalOfUse(scope, name)
                    : facts.refusalOfDeclaration(scope, name);
            if (refusal == ALLOWED) {
                if (sign == '^') {
                    facts.putScope(scope);
                } else if (sign == '?') {
                    facts.putUse(scope, name);
                } else {
                    facts.putDeclaration(scope, name, sign == '.' ? 1 : 0);
                }
            }
            return refusal;
        }

        private int putImportItem(Facts facts, int into, int start) {
            int passed = codeAt(start) == '<' ? 1 : 0;
            int at = start + passed;
            int from = codeAt(at) - 'A';
            int refusal = facts.refusalOfImport(into, from, true);
            if (refusal != ALLOWED) {
                return refusal;
            }
            if (codeAt(at + 1) == '.') {
                int source = codeAt(at + 2) - 'a';
                int local = codeAt(at + 3) == '=' ? codeAt(at + 4) - 'a' : source;
                facts.putImport(into, from, source, local, 0, passed);
            } else {
                int excepted = codeAt(at + 1) == '/' ? exceptedFrom(at + 2) : 0;
                facts.putImport(into, from, NONE, NONE, excepted, passed);
            }
            return ALLOWED;
        }

        /** The letters from an index up to the next sign, as a mask. */
        private int exceptedFrom(int start) {
            int names = 0;
            for (int at = start; at < length && codeAt(at) >= 'a'; at++) {
                names |= 1 << (codeAt(at) - 'a');
            }
            return names;
        }
    }
}
