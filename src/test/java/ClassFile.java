import java.io.ByteArrayInputStream;
import java.io.DataInputStream;
import java.io.IOException;
import java.io.InputStream;
import java.io.UncheckedIOException;
import java.util.LinkedHashMap;
import java.util.Map;
import java.util.Set;
import java.util.TreeSet;

/** A compiled class, read for what each of its methods calls; methods are told as owner.name(parameters)answer. */
final class ClassFile {
    static final String DYNAMIC = "invokedynamic";

    private static final int TABLE_SWITCH = 170;
    private static final int LOOKUP_SWITCH = 171;
    private static final int INVOKE_FIRST = 182;
    private static final int INVOKE_LAST = 185;
    private static final int INVOKE_DYNAMIC = 186;
    private static final int WIDE = 196;
    private static final int WIDE_IINC = 132;

    final Map<String, Set<String>> calls = new LinkedHashMap<>();
    private final DataInputStream in;
    private String[] names;
    private int[][] links;

    ClassFile(Class<?> type) {
        try (InputStream stream = type.getResourceAsStream("/" + type.getName() + ".class")) {
            in = new DataInputStream(new ByteArrayInputStream(stream.readAllBytes()));
            in.skipBytes(8);
            readConstants();
            in.skipBytes(6);
            in.skipBytes(2 * in.readUnsignedShort());
            readMembers(null);
            readMembers(type.getName());
        } catch (IOException e) {
            throw new UncheckedIOException(e);
        }
    }

    private void readConstants() throws IOException {
        int count = in.readUnsignedShort();
        names = new String[count];
        links = new int[count][];
        for (int k = 1; k < count; k++) {
            int tag = in.readUnsignedByte();
            switch (tag) {
                case 1 -> names[k] = in.readUTF();
                case 5, 6 -> {
                    in.readLong();
                    k++;
                }
                case 7, 8, 16, 19, 20 -> links[k] = new int[] {in.readUnsignedShort()};
                case 15 -> in.skipBytes(3);
                default -> links[k] = new int[] {in.readUnsignedShort(), in.readUnsignedShort()};
            }
        }
    }

    /** Reads the fields, or the methods if the owner is told. */
    private void readMembers(String owner) throws IOException {
        int count = in.readUnsignedShort();
        for (int k = 0; k < count; k++) {
            in.readUnsignedShort();
            String member = owner + "." + names[in.readUnsignedShort()] + names[in.readUnsignedShort()];
            Set<String> called = new TreeSet<>();
            int attributes = in.readUnsignedShort();
            for (int j = 0; j < attributes; j++) {
                boolean isCode = names[in.readUnsignedShort()].equals("Code");
                byte[] attribute = in.readNBytes(in.readInt());
                if (isCode) {
                    readCode(attribute, called);
                }
            }
            if (owner != null) {
                calls.put(member, called);
            }
        }
    }

    private void readCode(byte[] attribute, Set<String> called) {
        int begin = 8;
        int length = intAt(attribute, 4);
        for (int at = 0; at < length; at += size(attribute, begin, at)) {
            int code = attribute[begin + at] & 255;
            if (code >= INVOKE_FIRST && code <= INVOKE_LAST) {
                called.add(method(shortAt(attribute, begin + at + 1)));
            } else if (code == INVOKE_DYNAMIC) {
                called.add(DYNAMIC);
            }
        }
    }

    private String method(int constant) {
        int[] owner = links[links[constant][0]];
        int[] member = links[links[constant][1]];
        return names[owner[0]] + "." + names[member[0]] + names[member[1]];
    }

    /** The bytes of the instruction there. */
    private static int size(byte[] bytes, int begin, int at) {
        int code = bytes[begin + at] & 255;
        int aligned = at + 4 - at % 4;
        return switch (code) {
            case TABLE_SWITCH -> aligned - at + 12
                    + 4 * (intAt(bytes, begin + aligned + 8) - intAt(bytes, begin + aligned + 4) + 1);
            case LOOKUP_SWITCH -> aligned - at + 8 + 8 * intAt(bytes, begin + aligned + 4);
            case WIDE -> (bytes[begin + at + 1] & 255) == WIDE_IINC ? 6 : 4;
            default -> 1 + operands(code);
        };
    }

    private static int operands(int code) {
        if (code == 16 || code == 18 || code >= 21 && code <= 25 || code >= 54 && code <= 58 || code == 169 || code == 188) {
            return 1;
        }
        if (code == 185 || code == 186 || code == 200 || code == 201) {
            return 4;
        }
        if (code == 197) {
            return 3;
        }
        boolean two = code == 17 || code == 19 || code == 20 || code == 132 || code >= 153 && code <= 168
                || code >= 178 && code <= 184 || code == 187 || code == 189 || code == 192 || code == 193
                || code == 198 || code == 199;
        return two ? 2 : 0;
    }

    private static int shortAt(byte[] bytes, int at) {
        return (bytes[at] & 255) << 8 | bytes[at + 1] & 255;
    }

    private static int intAt(byte[] bytes, int at) {
        return shortAt(bytes, at) << 16 | shortAt(bytes, at + 2);
    }
}
