import java.util.ArrayList;
import java.util.Collections;
import java.util.Comparator;
import java.util.LinkedHashMap;
import java.util.List;
import java.util.Map;
import java.util.TreeMap;
import java.util.regex.Matcher;
import java.util.regex.Pattern;

/**
 * The document said a second time, with the Java library and without a thought of speed: what the random
 * runs compare DocFormat with.
 */
final class Model {
    static final String NAME = "[A-Za-z][A-Za-z0-9]{0,9}";
    static final String REFERENCE = NAME + "(\\." + NAME + ")?";
    private static final Pattern LINK = Pattern.compile(
            "\\{link (" + REFERENCE + ")(?: +([^{} \\n](?:[^{}\\n]{0,58}[^{} \\n])?))?\\}");
    private static final Pattern WORD = Pattern.compile("[^{} \\n]+");
    private static final List<String> TAGS = List.of("param", "return", "throws", "see", "since");

    record Piece(int sort, int place, String shown, String reference, boolean glued) { }

    static final class Block {
        int sort;
        int place;
        int depth;
        boolean close;
        String name = "";
        final List<Piece> pieces = new ArrayList<>();

        boolean isTag() {
            return sort >= 2 && sort <= 6;
        }
    }

    static final class Entry {
        int number;
        String name;
        Entry owner;
        Entry parent;
        boolean returns;
        final List<String> parameters = new ArrayList<>();
        List<Block> blocks;

        String title() {
            return owner == null ? name : owner.name + "." + name;
        }
    }

    final List<Entry> entries = new ArrayList<>();
    List<String> page = List.of();
    List<Entry> targets = List.of();
    int badness;
    int code;
    int place;

    Entry add(String name, Entry owner, Entry parent, boolean returns) {
        Entry entry = new Entry();
        entry.number = entries.size();
        entry.name = name;
        entry.owner = owner;
        entry.parent = parent;
        entry.returns = returns;
        entries.add(entry);
        return entry;
    }

    // ---- part 1

    Entry typeNamed(String name) {
        return entries.stream().filter(e -> e.owner == null && e.name.equals(name)).findFirst().orElse(null);
    }

    Entry memberFrom(Entry type, String name) {
        if (type == null) {
            return null;
        }
        return entries.stream().filter(e -> e.owner == type && e.name.equals(name)).findFirst()
                .orElseGet(() -> memberFrom(type.parent, name));
    }

    Entry above(Entry entry) {
        return entry.owner == null ? null : memberFrom(entry.owner.parent, entry.name);
    }

    Entry counting(Entry entry) {
        return entry == null || entry.blocks != null ? entry : counting(above(entry));
    }

    Entry leads(Entry from, String reference) {
        if (!reference.matches(REFERENCE)) {
            return null;
        }
        String[] names = reference.split("\\.");
        if (names.length == 2) {
            return memberFrom(typeNamed(names[0]), names[1]);
        }
        return Character.isUpperCase(reference.charAt(0)) ? typeNamed(reference)
                : memberFrom(from.owner == null ? from : from.owner, reference);
    }

    // ---- part 2

    /** Reads a comment: its blocks, or null with code and place of its fault. */
    List<Block> read(String text, boolean member) {
        TreeMap<Integer, Integer> faults = new TreeMap<>();
        for (int i = 0; i < text.length(); i++) {
            char c = text.charAt(i);
            if (c != 10 && (c < 32 || c > 126)) {
                code = 1;
                place = i;
                return null;
            }
        }
        List<Block> blocks = new ArrayList<>();
        // Lines of each block, as [from, to) of what is read for pieces.
        Map<Block, List<int[]>> lines = new LinkedHashMap<>();
        boolean empty = true;
        for (int from = 0; from < text.length();) {
            int to = text.indexOf('\n', from) < 0 ? text.length() : text.indexOf('\n', from);
            String line = text.substring(from, to);
            int first = from + line.length() - line.stripLeading().length();
            String rest = text.substring(first, to);
            Block last = blocks.isEmpty() ? null : blocks.get(blocks.size() - 1);
            if (!rest.isEmpty()) {
                boolean item = rest.equals("-") || rest.startsWith("- ");
                boolean begins = item || rest.startsWith("@") || empty;
                if (begins) {
                    Block block = new Block();
                    block.place = first;
                    blocks.add(block);
                    lines.put(block, new ArrayList<>());
                    if (item) {
                        block.sort = 1;
                        block.close = last != null && last.sort == 1 && !empty;
                        int blanks = first - from;
                        block.depth = blanks / 2;
                        int most = block.close ? Math.min(2, last.depth + 1) : 0;
                        if (blanks % 2 == 1 || block.depth > most) {
                            fault(faults, first, 3);
                        }
                    }
                    if (!rest.startsWith("@") && last != null && last.isTag()) {
                        fault(faults, first, 2);
                    }
                    if (blocks.size() > 24) {
                        fault(faults, first, 4);
                    }
                    int begin = rest.startsWith("@") ? readTag(text, first, to, block, blocks, faults)
                            : item ? first + 1 : first;
                    lines.get(block).add(new int[] {begin, to});
                } else {
                    lines.get(last).add(new int[] {first, to});
                }
            }
            empty = rest.isEmpty();
            from = to + 1;
        }
        boolean inherited = false;
        int pieces = 0;
        for (Block block : blocks) {
            StringBuilder whole = new StringBuilder();
            for (int[] range : lines.get(block)) {
                whole.append(text, range[0], range[1]).append('\n');
            }
            if (block.sort == 0 && member && whole.toString().strip().equals("{inherit}")) {
                block.sort = 7;
                if (inherited) {
                    fault(faults, block.place, 5);
                }
                inherited = true;
            } else {
                for (int[] range : lines.get(block)) {
                    pieces = readPieces(text, range[0], range[1], block, pieces, faults);
                }
            }
        }
        code = faults.isEmpty() ? 0 : faults.firstEntry().getValue();
        place = faults.isEmpty() ? 0 : faults.firstKey();
        return faults.isEmpty() ? blocks : null;
    }

    private static void fault(TreeMap<Integer, Integer> faults, int place, int code) {
        faults.merge(place, code, Math::min);
    }

    private static int readTag(String text, int first, int to, Block block, List<Block> blocks,
            TreeMap<Integer, Integer> faults) {
        Matcher m = Pattern.compile("@([^ ]*)( *)([^ ]*)").matcher(text.substring(first, to));
        m.lookingAt();
        block.sort = TAGS.indexOf(m.group(1)) + 2;
        if (block.sort < 2) {
            block.sort = 3;
            fault(faults, first, 2);
            return to;
        }
        if (block.sort == 3 || block.sort == 6) {
            if (blocks.stream().anyMatch(b -> b != block && b.sort == block.sort)) {
                fault(faults, first, 5);
            }
        }
        if (block.sort == 3) {
            return first + m.end(1);
        }
        String shape = block.sort == 2 ? NAME : block.sort == 6 ? "[0-9]{1,4}" : REFERENCE;
        if (!m.group(3).matches(shape)) {
            fault(faults, first + m.start(3), 2);
            return to;
        }
        block.name = m.group(3);
        if (block.sort == 2
                && blocks.stream().anyMatch(b -> b != block && b.sort == 2 && b.name.equals(block.name))) {
            fault(faults, first, 5);
        }
        return first + m.end(3);
    }

    private static int readPieces(String text, int from, int to, Block block, int before,
            TreeMap<Integer, Integer> faults) {
        int pieces = before;
        int end = -1;
        for (int i = from; i < to;) {
            if (text.charAt(i) == ' ') {
                i++;
                continue;
            }
            if (block.sort == 5 || block.sort == 6) {
                fault(faults, i, 2);
                return pieces;
            }
            Piece piece = pieceAt(text, i, to, end == i);
            if (piece == null) {
                fault(faults, i, 2);
                return pieces;
            }
            pieces++;
            if (pieces > 120) {
                fault(faults, i, 4);
            }
            block.pieces.add(piece);
            end = piece.sort == 0 ? i + piece.shown.length()
                    : piece.sort == 1 ? i + 7 + piece.shown.length() : text.indexOf('}', i) + 1;
            i = end;
        }
        return pieces;
    }

    private static Piece pieceAt(String text, int i, int to, boolean glued) {
        String rest = text.substring(i, to);
        if (rest.startsWith("{code ")) {
            for (int n = 1; n <= 60 && 6 + n < rest.length(); n++) {
                String code = rest.substring(6, 6 + n);
                int deep = 0;
                boolean pairs = true;
                for (char c : code.toCharArray()) {
                    deep += c == '{' ? 1 : c == '}' ? -1 : 0;
                    pairs &= deep >= 0;
                }
                if (pairs && deep == 0 && rest.charAt(6 + n) == '}') {
                    return new Piece(1, i, code, null, glued);
                }
            }
            return null;
        }
        Matcher link = LINK.matcher(rest);
        if (link.lookingAt()) {
            String reference = link.group(1);
            String label = link.group(3);
            return new Piece(2, i, label == null ? reference : label, reference, glued);
        }
        Matcher word = WORD.matcher(rest);
        return word.lookingAt() ? new Piece(0, i, word.group(), null, glued) : null;
    }

    // ---- part 3

    record Placed(Block block, Entry holder) { }

    List<Placed> story(Entry holder) {
        List<Placed> all = new ArrayList<>();
        if (holder == null) {
            return all;
        }
        for (Block block : holder.blocks) {
            if (block.sort == 7) {
                all.addAll(story(counting(above(holder))));
            } else if (!block.isTag()) {
                all.add(new Placed(block, holder));
            }
        }
        return all;
    }

    /** Makes the page: how many bytes it has; the old one stays if they are too many. */
    int layOut(Entry entry, int width, boolean least) {
        List<Entry> found = new ArrayList<>();
        List<String> lines = new ArrayList<>();
        int[] sum = new int[1];
        lines.add(entry.title());
        Entry holder = counting(entry);
        List<String> part = new ArrayList<>();
        for (Placed placed : story(holder)) {
            if (!part.isEmpty() && !placed.block.close) {
                part.add("");
            }
            part.addAll(blockLines(placed, width, least, found, sum));
        }
        addPart(lines, part);
        part = new ArrayList<>();
        if (holder != null) {
            List<Block> tags = new ArrayList<>(holder.blocks);
            tags.removeIf(b -> !b.isTag());
            tags.sort(Comparator.comparingInt(b -> b.sort));
            for (Block tag : tags) {
                part.addAll(blockLines(new Placed(tag, holder), width, least, found, sum));
            }
        }
        addPart(lines, part);
        part = new ArrayList<>();
        for (Entry target : found) {
            part.add("[" + (part.size() + 1) + "] " + target.title());
        }
        addPart(lines, part);
        int bytes = lines.stream().mapToInt(s -> s.length() + 1).sum();
        if (bytes <= 4000) {
            page = lines;
            targets = found;
            badness = sum[0];
        }
        return bytes;
    }

    private static void addPart(List<String> lines, List<String> part) {
        if (!part.isEmpty()) {
            lines.add("");
            lines.addAll(part);
        }
    }

    private String shownLink(Entry holder, String shown, String reference, List<Entry> found) {
        Entry target = leads(holder, reference);
        if (target == null) {
            return shown + "[?]";
        }
        if (!found.contains(target)) {
            found.add(target);
        }
        return shown + "[" + (found.indexOf(target) + 1) + "]";
    }

    private List<String> blockLines(Placed placed, int width, boolean least, List<Entry> found, int[] sum) {
        Block block = placed.block;
        List<String> chunks = new ArrayList<>();
        if (block.isTag()) {
            String word = TAGS.get(block.sort - 2);
            chunks.add(block.sort == 3 ? word : block.sort == 2 || block.sort == 6 ? word + " " + block.name
                    : word + " " + shownLink(placed.holder, block.name, block.name, found));
        }
        for (Piece piece : block.pieces) {
            String shown = piece.sort == 2 ? shownLink(placed.holder, piece.shown, piece.reference, found)
                    : piece.shown;
            if (piece.glued) {
                shown = chunks.remove(chunks.size() - 1) + shown;
            }
            chunks.add(shown);
        }
        String first = block.sort == 1 ? " ".repeat(2 * block.depth) + "- " : "";
        String other = block.isTag() ? "    " : " ".repeat(first.length());
        if (chunks.isEmpty()) {
            return List.of(first.stripTrailing());
        }
        List<Integer> way = least ? leastWay(chunks, width, first.length(), other.length())
                : filledWay(chunks, width, first.length(), other.length());
        List<String> lines = new ArrayList<>();
        int from = 0;
        for (int n : way) {
            lines.add((from == 0 ? first : other) + String.join(" ", chunks.subList(from, from + n)));
            from += n;
        }
        for (String line : lines.subList(0, lines.size() - 1)) {
            int left = Math.max(0, width - line.length());
            sum[0] += left * left;
        }
        return lines;
    }

    private static List<Integer> filledWay(List<String> chunks, int width, int first, int other) {
        List<Integer> way = new ArrayList<>();
        int n = 0;
        int columns = first;
        for (String chunk : chunks) {
            if (n > 0 && columns + 1 + chunk.length() > width) {
                way.add(n);
                n = 0;
                columns = other;
            }
            columns += chunk.length() + (n > 0 ? 1 : 0);
            n++;
        }
        way.add(n);
        return way;
    }

    /** Of all ways there are the one with the least sum; of several the one with more chunks early. */
    static List<Integer> leastWay(List<String> chunks, int width, int first, int other) {
        if (chunks.size() > 12) {
            return leastByStates(chunks, width, first, other);
        }
        List<Integer> best = null;
        long bestSum = Long.MAX_VALUE;
        for (int cuts = 0; cuts < 1 << (chunks.size() - 1); cuts++) {
            List<Integer> way = new ArrayList<>();
            int n = 1;
            for (int i = 0; i < chunks.size() - 1; i++) {
                if ((cuts >> i & 1) == 1) {
                    way.add(n);
                    n = 0;
                }
                n++;
            }
            way.add(n);
            long sum = sumOf(way, chunks, width, first, other);
            if (sum >= 0 && (sum < bestSum || sum == bestSum && isFuller(way, best))) {
                best = way;
                bestSum = sum;
            }
        }
        return best;
    }

    private static long sumOf(List<Integer> way, List<String> chunks, int width, int first, int other) {
        long sum = 0;
        int from = 0;
        for (int k = 0; k < way.size(); k++) {
            int n = way.get(k);
            int columns = (from == 0 ? first : other)
                    + String.join(" ", chunks.subList(from, from + n)).length();
            if (columns > width && n > 1) {
                return -1;
            }
            if (columns < width && k < way.size() - 1) {
                sum += (long) (width - columns) * (width - columns);
            }
            from += n;
        }
        return sum;
    }

    private static boolean isFuller(List<Integer> way, List<Integer> than) {
        for (int i = 0; i < way.size() && i < than.size(); i++) {
            if (!way.get(i).equals(than.get(i))) {
                return way.get(i) > than.get(i);
            }
        }
        return false;
    }

    /** Forward over the chunks, keeping the best way to each: what is best behind a cut does not look back. */
    private static List<Integer> leastByStates(List<String> chunks, int width, int first, int other) {
        List<List<Integer>> ways = new ArrayList<>(Collections.nCopies(chunks.size() + 1, null));
        ways.set(0, List.of());
        long[] sums = new long[chunks.size() + 1];
        for (int to = 1; to <= chunks.size(); to++) {
            for (int from = 0; from < to; from++) {
                int columns = (from == 0 ? first : other)
                        + String.join(" ", chunks.subList(from, to)).length();
                if (columns > width && to - from > 1) {
                    continue;
                }
                long left = columns > width || to == chunks.size() ? 0 : width - columns;
                long sum = sums[from] + left * left;
                List<Integer> way = new ArrayList<>(ways.get(from));
                way.add(to - from);
                if (ways.get(to) == null || sum < sums[to] || sum == sums[to] && isFuller(way, ways.get(to))) {
                    ways.set(to, way);
                    sums[to] = sum;
                }
            }
        }
        return ways.get(chunks.size());
    }

    // ---- part 4

    /** The notes, "sort:number" each. */
    String notes(Entry entry) {
        List<String> notes = new ArrayList<>();
        if (counting(entry) == null) {
            notes.add("1:0");
        }
        List<Block> own = entry.blocks == null ? List.of() : entry.blocks;
        for (Block block : own) {
            if ((block.sort == 4 || block.sort == 5) && leads(entry, block.name) == null) {
                notes.add("2:" + block.place);
            }
            for (Piece piece : block.pieces) {
                if (piece.sort == 2 && leads(entry, piece.reference) == null) {
                    notes.add("2:" + piece.place);
                }
            }
        }
        for (Block block : own) {
            if (block.sort == 7 && counting(above(entry)) == null) {
                notes.add("3:" + block.place);
            }
        }
        for (Block block : own) {
            if (block.sort == 2 && !entry.parameters.contains(block.name)) {
                notes.add("4:" + block.place);
            }
        }
        for (Block block : own) {
            if (block.sort == 3 && !entry.returns) {
                notes.add("5:" + block.place);
            }
        }
        List<Block> all = new ArrayList<>();
        for (Entry e = entry; e != null; e = above(e)) {
            all.addAll(e.blocks == null ? List.of() : e.blocks);
        }
        for (int i = 0; i < entry.parameters.size(); i++) {
            String name = entry.parameters.get(i);
            if (all.stream().noneMatch(b -> b.sort == 2 && b.name.equals(name))) {
                notes.add("6:" + i);
            }
        }
        if (entry.returns && all.stream().noneMatch(b -> b.sort == 3)) {
            notes.add("7:0");
        }
        return String.join(" ", notes);
    }
}
