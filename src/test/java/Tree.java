import java.util.ArrayList;
import java.util.List;
import java.util.Random;

/** A FORM as a tree, made by chance, with the text that tells it. */
final class Tree {
    char kind;
    int group;
    Tree left;
    Tree right;

    static Tree any(Random chance, int depth, int players) {
        Tree tree = new Tree();
        String kinds = depth == 0 ? "Tabcabc" : "ab!&|XGFIUXGFIU";
        tree.kind = kinds.charAt(chance.nextInt(kinds.length()));
        if (tree.isLaw()) {
            tree.group = chance.nextInt(1 << players);
        }
        if ("!&|XGFIU".indexOf(tree.kind) >= 0) {
            tree.left = any(chance, depth - 1, players);
        }
        if ("&|U".indexOf(tree.kind) >= 0) {
            tree.right = any(chance, depth - 1, players);
        }
        return tree;
    }

    boolean isLaw() {
        return "XGFIU".indexOf(kind) >= 0;
    }

    String text() {
        StringBuilder out = new StringBuilder();
        if (isLaw()) {
            out.append('<');
            for (int p = 0; p < 4; p++) {
                if ((group >> p & 1) != 0) {
                    out.append(p);
                }
            }
            out.append('>');
        }
        if (right != null) {
            return out.append('(').append(left.text()).append(kind).append(right.text()).append(')').toString();
        }
        out.append(kind);
        return left == null ? out.toString() : out.append(left.text()).toString();
    }

    /** The parts in the order in which they begin. */
    List<Tree> parts() {
        List<Tree> all = new ArrayList<>();
        all.add(this);
        if (left != null) {
            all.addAll(left.parts());
        }
        if (right != null) {
            all.addAll(right.parts());
        }
        return all;
    }
}
