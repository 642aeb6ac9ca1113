import java.util.ArrayList;
import java.util.List;
import java.util.Random;

/** Random runs of calls, each answer compared with that of the Model (promises 4 to 21). */
public final class ModelTest {
    private static final String[] TYPES = {"A", "B", "Cc", "Dd1", "Eeeeeeeee9"};
    private static final String[] MEMBERS = {"m", "go", "put", "k1", "aVeryLongN"};
    private static final String[] PARAMETERS = {"a", "b", "c1", "dd", "m"};
    private static final String[] ODDS = {"", "1a", "elevenBytes", "a b", "A.", ".a", "a.b.c", "x-", "A.m", "B.go"};
    private static final String[] PARTS = {
        "word", "a", "is", "of", "longer", "considerable", " ", " ", " ", " ", "  ", "\n", "\n", "\n", "\n\n",
        "\n- ", "\n- one ", "\n  - two ", "\n    - three ", "\n- \n", "\n  -\n", "\n-\n", "{code x}", "{code {a} b}",
        "{code  }", "{link A}", "{link m}", "{link go  the way}", "{link B.put}", "{link Nothing x y}",
        "\n\n{inherit}\n\n", "\n\n {inherit} \n", "{inherit}", "- ", "-x", ".", ",", "@",
    };
    private static final String[] TAG_PARTS = {
        "\n@param a x", "\n@param b", "\n@param zz word", "\n @return it", "\n@throws A when it is so",
        "\n@throws B.go", "\n@see m", "\n@see Nope", "\n@since 12", "\n\n@since 1 \n", "\nmore of it {link go}",
        "\n  so on", " and {code so on}",
    };
    private static final String[] WRONGS = {
        "}", "{", "{code }", "{code\n}", "{code {}", "{link  A}", "{link A }", "{link A x }", "{link A {b}}", "{link A.}",
        "{inherit} x", "\n   - x", "\n      - x", "\n    - x", "\n\n  - x", "@param", "\n@param  ", "\n@param 1",
        "\n@see", "\n@see A b", "\n@since 12345", "\n@since x", "\n@other", "\n@", "\n@return", "\n@since 3",
        "\n@param a", "\n\ntext", "\n- x", "\t", "\u007f", "\u00e4", "\u0000",
    };

    private final Random random;
    private final Desk desk = new Desk();
    private final Model model = new Model();
    private final int run;

    private ModelTest(int run) {
        this.run = run;
        random = new Random(run);
    }

    public static void main(String[] args) {
        int runs = args.length > 0 ? Integer.parseInt(args[0]) : 3000;
        for (int run = 0; run < runs; run++) {
            new ModelTest(run).play();
        }
        Desk.finish();
    }

    private void play() {
        if (run % 5 == 0) {
            addChain(2 + random.nextInt(19));
        }
        int steps = 20 + random.nextInt(50);
        for (int step = 0; step < steps; step++) {
            int kind = random.nextInt(10);
            if (kind < 3 || model.entries.isEmpty()) {
                addEntry();
            } else if (kind < 4) {
                addParameter();
            } else if (kind < 8) {
                readComment();
            } else if (kind < 9) {
                removeComment();
            } else {
                follow();
            }
            if (step % 5 == 4) {
                lookAtAll();
            }
        }
        lookAtAll();
    }

    /** Types, each the parent of the next, that all have "go". */
    private void addChain(int types) {
        Model.Entry parent = null;
        for (int i = 0; i < types; i++) {
            Model.Entry type = model.add("T" + i, null, parent, false);
            due("type " + type.name, desk.type(type.name, number(parent)), type.number);
            Model.Entry go = model.add("go", type, null, i % 2 == 0);
            due("member of " + type.name, desk.member("go", type.number, i % 2 == 0), go.number);
            parent = type;
        }
    }

    private void due(String call, Object got, Object want) {
        Desk.due("run " + run + ": " + call, got, want);
    }

    private String any(String[] texts) {
        return texts[random.nextInt(texts.length)];
    }

    private int anyEntry() {
        return random.nextInt(12) == 0 ? random.nextInt(60) - 10 : random.nextInt(Math.max(1, model.entries.size()));
    }

    private Model.Entry entry(int number) {
        return number < 0 || number >= model.entries.size() ? null : model.entries.get(number);
    }

    private static int number(Model.Entry entry) {
        return entry == null ? -1 : entry.number;
    }

    private String anyName(String[] names) {
        int n = random.nextInt(14);
        return n == 0 ? any(ODDS) : n == 1 ? any(TYPES) : n == 2 ? any(MEMBERS)
                : n == 3 ? any(names) + random.nextInt(99) : any(names);
    }

    private void addEntry() {
        boolean type = random.nextInt(3) == 0 || model.entries.isEmpty();
        String name = anyName(type ? TYPES : MEMBERS);
        boolean returns = random.nextBoolean();
        int of = type && random.nextInt(4) == 0 ? -1 : anyEntry();
        Model.Entry other = entry(of);
        boolean named = name.matches(Model.NAME) && Character.isUpperCase(name.charAt(0)) == type;
        boolean placed = other != null && other.owner == null || type && of == -1;
        int want = -1;
        if (named && placed && model.entries.stream().noneMatch(
                e -> e.name.equals(name) && e.owner == (type ? null : other))) {
            want = -3;
            if (model.entries.size() < 40) {
                want = model.add(name, type ? null : other, type ? other : null, !type && returns).number;
            }
        }
        desk.tape(name);
        int got = type ? desk.x.type(of) : desk.x.member(of, returns);
        due((type ? "type " : "member ") + name + " of " + of, got, want);
        due("tape", desk.x.count(2), 0);
    }

    private void addParameter() {
        String name = anyName(PARAMETERS);
        int of = anyEntry();
        Model.Entry other = entry(of);
        int want = -1;
        if (other != null && other.owner != null && name.matches(Model.NAME)
                && Character.isLowerCase(name.charAt(0)) && !other.parameters.contains(name)) {
            want = -3;
            if (other.parameters.size() < 4) {
                other.parameters.add(name);
                want = other.parameters.size();
            }
        }
        due("parameter " + name + " of " + of, desk.parameter(name, of), want);
        due("tape", desk.x.count(2), 0);
    }

    private String anyText() {
        if (random.nextInt(2) == 0) {
            return wildText();
        }
        String text = fairText();
        if (random.nextInt(5) > 0) {
            return text;
        }
        int at = random.nextInt(text.length() + 1);
        return cut(text.substring(0, at) + any(WRONGS) + text.substring(at));
    }

    private static String cut(String text) {
        return text.length() > 600 ? text.substring(0, 600) : text;
    }

    private String words() {
        String[] some = {"a", "is", "the", "word", "longer", "considerable", "{code x}", "{code {a} b}", "{link go}",
            "{link A}", "{link B.put  the way}", "{link Nope}", "x{link m}y", "{link T1.go}{code 1}", "-x", "\n at"};
        StringBuilder text = new StringBuilder(any(MEMBERS));
        int n = random.nextInt(random.nextInt(4) == 0 ? 40 : 12);
        for (int i = 0; i < n; i++) {
            text.append(' ').append(any(some));
        }
        return text.toString();
    }

    /** A text without a fault, but perhaps a {inherit} in the comment of a type, or a cut at its end. */
    private String fairText() {
        StringBuilder text = new StringBuilder();
        int inheritAt = random.nextInt(6);
        int n = random.nextInt(6);
        int depth = -1;
        for (int i = 0; i < n; i++) {
            if (i == inheritAt) {
                text.append("\n {inherit} \n\n");
                depth = -1;
            } else if (random.nextBoolean()) {
                depth = Math.min(2, random.nextInt(depth + 2));
                text.append("  ".repeat(depth)).append(random.nextInt(8) == 0 ? "-" : "- " + words()).append('\n');
            } else {
                text.append('\n').append(words()).append('\n');
                depth = -1;
            }
            if (random.nextInt(4) == 0) {
                text.append(" \n");
                depth = -1;
            }
        }
        String[] tags = {"@param a", "@param b " + words(), "@return", "@return " + words(), "@throws A",
            "@throws B.go " + words(), "@see m", "@see Dd1", "@see Nope.no", "@since 1", "@since 2026"};
        for (String tag : tags) {
            boolean twice = tag.startsWith("@return ") && text.indexOf("@return") >= 0
                    || tag.equals("@since 2026") && text.indexOf("@since") >= 0;
            if (random.nextInt(3) == 0 && !twice) {
                text.append(tag).append('\n');
            }
        }
        return cut(text.toString());
    }

    private String wildText() {
        StringBuilder text = new StringBuilder();
        int sort = random.nextInt(10);
        if (sort == 0) {
            String[] many = {"- \n", "-\n\n", "x\n\n", "{link A}", "x ", "@see A\n", "x{code y}"};
            String part = any(many);
            int n = 20 + random.nextInt(110);
            for (int i = 0; i < n; i++) {
                text.append(random.nextInt(40) == 0 ? any(PARTS) : part);
            }
        } else {
            int n = random.nextInt(40);
            for (int i = 0; i < n; i++) {
                text.append(any(PARTS)).append(random.nextInt(3) > 0 ? " " : "");
            }
            int tags = random.nextInt(6);
            for (int i = 0; i < tags; i++) {
                text.append(any(TAG_PARTS));
            }
        }
        if (random.nextInt(3) == 0) {
            text.insert(random.nextInt(text.length() + 1), any(WRONGS));
        }
        if (random.nextInt(6) == 0) {
            text.append(any(WRONGS));
        }
        String all = text.toString();
        // Most depths and second {inherit}s of random text are wrong: let some texts be without.
        if (random.nextInt(2) == 0) {
            all = all.replace("    - ", "- ").replace("  -", "-");
        }
        if (random.nextInt(2) == 0 && all.indexOf("{inherit}") >= 0) {
            int first = all.indexOf("{inherit}") + 9;
            all = "{inherit}\n\n" + all.substring(0, first).replace("{inherit}", "it")
                    + all.substring(first).replace("{inherit}", "it");
        }
        return cut(all);
    }

    private void readComment() {
        int of = anyEntry();
        Model.Entry holder = entry(of);
        String text = anyText();
        int want = -1;
        if (holder != null) {
            List<Model.Block> blocks = model.read(text, holder.owner != null);
            if (blocks != null) {
                holder.blocks = blocks;
            }
            want = blocks == null ? -10 - model.place : blocks.size();
        }
        due("comment of " + of + ": " + text.replace("\n", "\\n"), desk.comment(of, text), want);
        due("fault", desk.x.fault(), model.code);
        due("tape", desk.x.count(2), 0);
    }

    private void removeComment() {
        int of = anyEntry();
        Model.Entry holder = entry(of);
        int want = holder == null ? -1 : holder.blocks == null ? -2 : holder.blocks.size();
        if (holder != null) {
            holder.blocks = null;
        }
        due("bare " + of, desk.x.bare(of), want);
    }

    private void follow() {
        int of = anyEntry();
        Model.Entry from = entry(of);
        String reference = random.nextBoolean() ? anyName(TYPES)
                : random.nextBoolean() ? anyName(MEMBERS) : anyName(TYPES) + "." + anyName(MEMBERS);
        int want = from == null ? -9 : number(model.leads(from, reference));
        due("leads " + reference + " from " + of, desk.leads(of, reference), want);
        due("tape", desk.x.count(2), 0);
    }

    private void lookAtAll() {
        due("count 0", desk.x.count(0), model.entries.size());
        due("count 1", desk.x.count(1), (int) model.entries.stream().filter(e -> e.owner == null).count());
        due("count 3", desk.x.count(3), (int) model.entries.stream().filter(e -> e.blocks != null).count());
        for (Model.Entry entry : model.entries) {
            lookAt(entry);
        }
        Model.Entry entry = entry(anyEntry());
        if (entry != null) {
            lookAtPage(entry);
            due("notes of " + entry.number, desk.notes(entry.number), model.notes(entry));
        }
    }

    private void lookAt(Model.Entry entry) {
        int of = entry.number;
        List<Model.Block> own = entry.blocks == null ? List.of() : entry.blocks;
        List<Model.Piece> pieces = new ArrayList<>();
        own.forEach(b -> pieces.addAll(b.pieces));
        int[] told = {number(entry.owner), number(entry.parent), entry.parameters.size(), entry.returns ? 1 : 0,
            number(model.above(entry)), number(model.counting(entry)), own.size(), pieces.size(), -9};
        for (int what = 0; what < told.length; what++) {
            due("told " + of + " " + what, desk.x.told(of, what), told[what]);
        }
        for (int i = 0; i < own.size(); i++) {
            Model.Block b = own.get(i);
            int[] block = {b.sort, b.depth, b.pieces.size(), b.place, -9};
            for (int what = 0; what < block.length; what++) {
                due("block " + of + " " + i + " " + what, desk.x.block(of, i, what), block[what]);
            }
        }
        due("block behind", desk.x.block(of, own.size(), 0), -9);
        for (int i = 0; i < pieces.size(); i++) {
            Model.Piece p = pieces.get(i);
            int leads = p.sort() == 2 ? number(model.leads(entry, p.reference())) : -1;
            int[] piece = {p.sort(), p.place(), p.shown().length(), p.glued() ? 1 : 0, leads, -9};
            for (int what = 0; what < piece.length; what++) {
                due("piece " + of + " " + i + " " + what, desk.x.piece(of, i, what), piece[what]);
            }
        }
        due("piece behind", desk.x.piece(of, pieces.size(), 0), -9);
    }

    private void lookAtPage(Model.Entry entry) {
        int width = 12 + random.nextInt(49);
        int how = random.nextInt(2);
        int bytes = model.layOut(entry, width, how == 1);
        int want = bytes > 4000 ? -3 : model.page.size();
        due("page " + entry.number + " " + width + " " + how, desk.x.page(entry.number, width, how), want);
        StringBuilder text = new StringBuilder();
        int longest = 0;
        for (int i = 0; i < model.page.size(); i++) {
            due("line " + i, desk.x.line(i), text.length());
            text.append(model.page.get(i)).append('\n');
            longest = Math.max(longest, model.page.get(i).length());
        }
        due("line behind", desk.x.line(model.page.size()), -1);
        due("text of page " + entry.number + " " + width + " " + how, desk.page(), text.toString());
        due("byte behind", desk.x.at(text.length()), 0);
        int[] about = {model.page.size(), text.length(), model.targets.size(), model.badness, longest, -1};
        for (int what = 0; what < about.length; what++) {
            due("about " + what, desk.x.about(what), about[what]);
        }
        for (int k = 0; k <= model.targets.size() + 1; k++) {
            int target = k < 1 || k > model.targets.size() ? -1 : model.targets.get(k - 1).number;
            due("target " + k, desk.x.target(k), target);
        }
    }
}
