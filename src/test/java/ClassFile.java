import java.io.ByteArrayInputStream;
import java.io.DataInputStream;
import java.io.IOException;
import java.io.InputStream;
import java.util.LinkedHashMap;
import java.util.Map;
import java.util.Set;
import java.util.TreeMap;
import java.util.TreeSet;

/** What a compiled class calls and which instructions its methods are made of, as LANGUAGE.md's rules speak of it. */
final class ClassFile {
    private static final int INVOKE_FIRST = 182;
    private static final int INVOKE_LAST = 186;
    private static final int TABLE_SWITCH = 170;
    private static final int LOOKUP_SWITCH = 171;
    private static final int WIDE = 196;
    private static final int IINC = 132;
    /** How many bytes stand behind each instruction; switches and wide are counted where they stand. */
    private static final String BEHIND = "0000000000000000" + "1212211111" + zeros(28) + "11111" + zeros(73) + "2" + zeros(20)
        + "2222222222222222" + "1" + "00" + zeros(6) + "22222224421200220" + "0" + "0" + "3" + "2" + "2" + "4" + "4";

    final String name;
    /** Each method (with what it takes) and what it calls, as Class.name(what it takes)answer. */
    final Map<String, Set<String>> calls = new LinkedHashMap<>();
    /** Each instruction, and in how many places it stands. */
    final Map<Integer, Integer> instructions = new TreeMap<>();
    int guarded;
    private final Object[] pool;
    private final int[][] pairs;

    static ClassFile of(Class<?> c) throws IOException {
        String file = c.getName() + ".class";
        try (InputStream in = c.getResourceAsStream("/" + file)) {
            return new ClassFile(new DataInputStream(in));
        }
    }

    private ClassFile(DataInputStream in) throws IOException {
        in.readInt();
        in.readInt();
        int n = in.readUnsignedShort();
        pool = new Object[n];
        pairs = new int[n][];
        for (int i = 1; i < n; i++) {
            i += constant(in, i);
        }
        in.readUnsignedShort();
        name = className(in.readUnsignedShort());
        in.readUnsignedShort();
        in.skipBytes(2 * in.readUnsignedShort());
        members(in, false);
        members(in, true);
    }

    private static String zeros(int n) {
        return "0".repeat(n);
    }

    /** Reads a constant; 1, if it takes up two places. */
    private int constant(DataInputStream in, int i) throws IOException {
        int tag = in.readUnsignedByte();
        switch (tag) {
            case 1:
                pool[i] = in.readUTF();
                return 0;
            case 3:
            case 4:
                in.readInt();
                return 0;
            case 5:
            case 6:
                in.readLong();
                return 1;
            case 7:
            case 8:
            case 16:
            case 19:
            case 20:
                pairs[i] = new int[] {in.readUnsignedShort(), 0};
                return 0;
            case 15:
                in.readUnsignedByte();
                in.readUnsignedShort();
                return 0;
            default:
                pairs[i] = new int[] {in.readUnsignedShort(), in.readUnsignedShort()};
                return 0;
        }
    }

    private String className(int i) {
        return (String) pool[pairs[i][0]];
    }

    private String member(int i) {
        int[] named = pairs[pairs[i][1]];
        return className(pairs[i][0]) + "." + pool[named[0]] + pool[named[1]];
    }

    private void members(DataInputStream in, boolean methods) throws IOException {
        int n = in.readUnsignedShort();
        for (int i = 0; i < n; i++) {
            in.readUnsignedShort();
            String method = name + "." + pool[in.readUnsignedShort()] + pool[in.readUnsignedShort()];
            int attributes = in.readUnsignedShort();
            for (int k = 0; k < attributes; k++) {
                String attribute = (String) pool[in.readUnsignedShort()];
                byte[] bytes = new byte[in.readInt()];
                in.readFully(bytes);
                if (methods && attribute.equals("Code")) {
                    code(method, new DataInputStream(new ByteArrayInputStream(bytes)));
                }
            }
        }
    }

    private void code(String method, DataInputStream in) throws IOException {
        in.readInt();
        byte[] code = new byte[in.readInt()];
        in.readFully(code);
        guarded += in.readUnsignedShort();
        Set<String> called = new TreeSet<>();
        int at = 0;
        while (at < code.length) {
            int op = code[at] & 255;
            instructions.merge(op, 1, Integer::sum);
            if (op >= INVOKE_FIRST && op < INVOKE_LAST) {
                called.add(member((code[at + 1] & 255) << 8 | code[at + 2] & 255));
            }
            at += 1 + behind(code, at, op);
        }
        calls.put(method, called);
    }

    private static int behind(byte[] code, int at, int op) {
        if (op == WIDE) {
            return (code[at + 1] & 255) == IINC ? 5 : 3;
        }
        if (op != TABLE_SWITCH && op != LOOKUP_SWITCH) {
            return BEHIND.charAt(op) - '0';
        }
        int from = at + 4 - at % 4;
        int last = op == TABLE_SWITCH ? from + 12 + 4 * (word(code, from + 8) - word(code, from + 4) + 1) : from + 8 + 8 * word(code, from + 4);
        return last - at - 1;
    }

    private static int word(byte[] code, int at) {
        return (code[at] & 255) << 24 | (code[at + 1] & 255) << 16 | (code[at + 2] & 255) << 8 | code[at + 3] & 255;
    }
}
