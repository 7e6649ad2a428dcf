import java.io.IOException;
import java.nio.file.Files;
import java.nio.file.Path;
import java.util.ArrayList;
import java.util.List;

/** The README, cut into its fenced blocks and the rows of its tables. */
final class Readme {
    static final class Block {
        final String language;
        final List<String> lines = new ArrayList<>();

        Block(String language) {
            this.language = language;
        }

        String text() {
            StringBuilder b = new StringBuilder();
            for (String line : lines) {
                b.append(line).append('\n');
            }
            return b.toString();
        }
    }

    private final List<String> lines;
    private final List<Block> blocks = new ArrayList<>();
    private final List<String[]> rows = new ArrayList<>();

    Readme(Path path) throws IOException {
        lines = Files.readAllLines(path);
        Block block = null;
        for (String line : lines) {
            if (line.startsWith("```")) {
                block = block == null ? new Block(line.substring(3)) : null;
                if (block != null) {
                    blocks.add(block);
                }
            } else if (block != null) {
                block.lines.add(line);
            } else if (line.startsWith("| ")) {
                rows.add(cellsOf(line));
            }
        }
    }

    private static String[] cellsOf(String row) {
        String[] cells = row.substring(1, row.lastIndexOf('|')).split("\\|", -1);
        for (int k = 0; k < cells.length; k++) {
            cells[k] = cells[k].trim();
        }
        return cells;
    }

    List<Block> blocks() {
        return blocks;
    }

    List<String[]> rows() {
        return rows;
    }

    /** What stands between single backquotes in the text and the tables. */
    List<String> quoted() {
        List<String> result = new ArrayList<>();
        for (String line : lines) {
            String[] parts = line.split("`", -1);
            for (int k = 1; k < parts.length - 1 && !line.startsWith("```"); k += 2) {
                result.add(parts[k]);
            }
        }
        return result;
    }
}
