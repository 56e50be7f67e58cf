import java.io.DataInputStream;
import java.io.IOException;
import java.io.InputStream;
import java.util.ArrayList;
import java.util.LinkedHashMap;
import java.util.List;
import java.util.Map;

/** What a compiled class says of its methods: whom each calls, and which instructions it has. */
final class ClassFile {
    static final int IDIV = 108;
    static final int LREM = 113;
    static final int NEW = 187;
    static final int NEWARRAY = 188;
    static final int ANEWARRAY = 189;
    static final int MULTIANEWARRAY = 197;
    private static final int BIPUSH = 16;
    private static final int ICONST_1 = 4;
    private static final int ICONST_5 = 8;
    private static final int TABLESWITCH = 170;
    private static final int LOOKUPSWITCH = 171;
    private static final int INVOKE_FIRST = 182;
    private static final int INVOKE_LAST = 185;
    private static final int WIDE = 196;
    private static final int IINC = 132;

    /** A method, named as Owner.name and its descriptor. */
    static final class Body {
        final List<String> calls = new ArrayList<>();
        final List<Integer> codes = new ArrayList<>();
        int handlers = 0;
        /** Divisions whose divisor isn't a constant above 0 that stands just ahead of them. */
        int openDivisions = 0;
    }

    final Map<String, Body> methods = new LinkedHashMap<>();
    private final String[] texts;
    private final int[] first;
    private final int[] second;
    private final String owner;

    ClassFile(String resource) throws IOException {
        try (InputStream bytes = ClassFile.class.getResourceAsStream(resource)) {
            DataInputStream in = new DataInputStream(bytes);
            in.readLong();
            int size = in.readUnsignedShort();
            texts = new String[size];
            first = new int[size];
            second = new int[size];
            for (int i = 1; i < size; i++) {
                i += readConstant(in, i);
            }
            in.readUnsignedShort();
            owner = texts[first[in.readUnsignedShort()]];
            in.readUnsignedShort();
            in.skipBytes(2 * in.readUnsignedShort());
            readMembers(in);
            readMembers(in);
        }
    }

    /** Answers how many places the constant takes beyond its own. */
    private int readConstant(DataInputStream in, int i) throws IOException {
        int tag = in.readUnsignedByte();
        switch (tag) {
            case 1:
                texts[i] = in.readUTF();
                return 0;
            case 5: case 6:
                in.readLong();
                return 1;
            case 7: case 8: case 16: case 19: case 20:
                first[i] = in.readUnsignedShort();
                return 0;
            case 15:
                in.skipBytes(3);
                return 0;
            default:
                first[i] = in.readUnsignedShort();
                second[i] = in.readUnsignedShort();
                return 0;
        }
    }

    private void readMembers(DataInputStream in) throws IOException {
        int many = in.readUnsignedShort();
        for (int i = 0; i < many; i++) {
            in.readUnsignedShort();
            String name = owner + "." + texts[in.readUnsignedShort()] + texts[in.readUnsignedShort()];
            int attributes = in.readUnsignedShort();
            for (int a = 0; a < attributes; a++) {
                boolean isCode = texts[in.readUnsignedShort()].equals("Code");
                byte[] content = new byte[in.readInt()];
                in.readFully(content);
                if (isCode) {
                    methods.put(name, body(content));
                }
            }
        }
    }

    private static int at(byte[] code, int i) {
        return code[i] & 255;
    }

    private static int two(byte[] code, int i) {
        return at(code, i) << 8 | at(code, i + 1);
    }

    private static int four(byte[] code, int i) {
        return two(code, i) << 16 | two(code, i + 2);
    }

    /** The code attribute has eight bytes of sizes ahead of the instructions, and the handlers behind them. */
    private Body body(byte[] content) {
        Body body = new Body();
        int end = 8 + four(content, 4);
        int before = -1;
        for (int i = 8; i < end; i += length(content, i)) {
            int code = at(content, i);
            body.codes.add(code);
            if (code >= INVOKE_FIRST && code <= INVOKE_LAST) {
                body.calls.add(methodOf(two(content, i + 1)));
            }
            if (code >= IDIV && code <= LREM && !isConstant(content, before)) {
                body.openDivisions++;
            }
            before = i;
        }
        body.handlers = two(content, end);
        return body;
    }

    private static boolean isConstant(byte[] content, int i) {
        int code = i < 0 ? -1 : at(content, i);
        return code >= ICONST_1 && code <= ICONST_5 || code == BIPUSH && content[i + 1] > 0;
    }

    private String methodOf(int constant) {
        int named = second[constant];
        return texts[first[first[constant]]] + "." + texts[first[named]] + texts[second[named]];
    }

    private static int length(byte[] content, int i) {
        int code = at(content, i);
        int aligned = i + 4 - (i - 8) % 4;
        switch (code) {
            case TABLESWITCH:
                return aligned - i + 12 + 4 * (four(content, aligned + 8) - four(content, aligned + 4) + 1);
            case LOOKUPSWITCH:
                return aligned - i + 8 + 8 * four(content, aligned + 4);
            case WIDE:
                return at(content, i + 1) == IINC ? 6 : 4;
            case 185: case 186: case 200: case 201:
                return 5;
            case MULTIANEWARRAY:
                return 4;
            case 16: case 18: case 169: case 188:
                return 2;
            case 17: case 19: case 20: case IINC: case 187: case 189: case 192: case 193: case 198: case 199:
                return 3;
            default:
                boolean isLocal = code >= 21 && code <= 25 || code >= 54 && code <= 58;
                boolean isWideArgument = code >= 153 && code <= 168 || code >= 178 && code <= 184;
                return isLocal ? 2 : isWideArgument ? 3 : 1;
        }
    }
}
