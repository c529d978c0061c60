import java.io.DataInputStream;
import java.io.IOException;
import java.io.InputStream;
import java.lang.reflect.Modifier;
import java.util.ArrayList;
import java.util.LinkedHashSet;
import java.util.List;
import java.util.Set;

/** A compiled class, as far as the rules of LANGUAGE.md ask: its methods, what they call and do. */
final class Compiled {
    static final int TABLESWITCH = 170;
    static final int LOOKUPSWITCH = 171;
    static final int INVOKE_FIRST = 182;
    static final int INVOKE_INTERFACE = 185;
    static final int INVOKE_DYNAMIC = 186;
    static final int ATHROW = 191;
    static final int MONITOR_ENTER = 194;
    static final int MONITOR_EXIT = 195;
    static final int WIDE = 196;
    static final int IINC = 132;

    /** Names are told as Class.method; the library's with its package. */
    static final class Method {
        final String name;
        final int access;
        final Set<String> calls = new LinkedHashSet<>();
        final Set<Integer> opcodes = new LinkedHashSet<>();
        int handlers;

        Method(String name, int access) {
            this.name = name;
            this.access = access;
        }

        boolean isPrivate() {
            return Modifier.isPrivate(access);
        }

        boolean isStatic() {
            return Modifier.isStatic(access);
        }
    }

    final List<Method> methods = new ArrayList<>();
    private final String[] texts;
    private final int[] first;
    private final int[] second;

    private Compiled(DataInputStream in) throws IOException {
        in.readInt();
        in.readInt();
        int count = in.readUnsignedShort();
        texts = new String[count];
        first = new int[count];
        second = new int[count];
        for (int i = 1; i < count; i++) {
            i += constant(in, i);
        }
        in.readUnsignedShort();
        String own = className(in.readUnsignedShort());
        in.readUnsignedShort();
        in.skipBytes(2 * in.readUnsignedShort());
        for (int fields = in.readUnsignedShort(); fields > 0; fields--) {
            member(in, null);
        }
        for (int left = in.readUnsignedShort(); left > 0; left--) {
            member(in, own);
        }
    }

    static Compiled of(Class<?> type) throws IOException {
        String file = type.getName() + ".class";
        try (InputStream in = type.getResourceAsStream(file)) {
            return new Compiled(new DataInputStream(in));
        }
    }

    /** How many places more than one the constant takes. */
    private int constant(DataInputStream in, int i) throws IOException {
        int tag = in.readUnsignedByte();
        switch (tag) {
            case 1:
                texts[i] = in.readUTF();
                return 0;
            case 5:
            case 6:
                in.readLong();
                return 1;
            case 7:
            case 8:
            case 16:
            case 19:
            case 20:
                first[i] = in.readUnsignedShort();
                return 0;
            case 15:
                in.readUnsignedByte();
                in.readUnsignedShort();
                return 0;
            default:
                first[i] = in.readUnsignedShort();
                second[i] = in.readUnsignedShort();
                return 0;
        }
    }

    private String className(int at) {
        return texts[first[at]];
    }

    private String calledName(int at) {
        return className(first[at]) + "." + texts[first[second[at]]] + texts[second[second[at]]];
    }

    private void member(DataInputStream in, String own) throws IOException {
        int access = in.readUnsignedShort();
        String name = texts[in.readUnsignedShort()];
        String form = texts[in.readUnsignedShort()];
        Method method = own == null ? null : new Method(own + "." + name + form, access);
        for (int left = in.readUnsignedShort(); left > 0; left--) {
            String attribute = texts[in.readUnsignedShort()];
            byte[] bytes = new byte[in.readInt()];
            in.readFully(bytes);
            if (method != null && attribute.equals("Code")) {
                code(bytes, method);
            }
        }
        if (method != null) {
            methods.add(method);
        }
    }

    private void code(byte[] bytes, Method method) {
        int start = 8;
        int length = word(bytes, 4);
        int at = 0;
        while (at < length) {
            int opcode = bytes[start + at] & 255;
            method.opcodes.add(opcode);
            if (opcode >= INVOKE_FIRST && opcode <= INVOKE_INTERFACE) {
                method.calls.add(calledName(half(bytes, start + at + 1)));
            }
            at += size(bytes, start, at, opcode);
        }
        method.handlers = half(bytes, start + length);
    }

    private static int size(byte[] bytes, int start, int at, int opcode) {
        int aligned = start + (at + 4) / 4 * 4;
        if (opcode == TABLESWITCH) {
            int places = word(bytes, aligned + 8) - word(bytes, aligned + 4) + 1;
            return aligned + 12 + 4 * places - start - at;
        }
        if (opcode == LOOKUPSWITCH) {
            return aligned + 8 + 8 * word(bytes, aligned + 4) - start - at;
        }
        if (opcode == WIDE) {
            return (bytes[start + at + 1] & 255) == IINC ? 6 : 4;
        }
        return plainSize(opcode);
    }

    private static int plainSize(int opcode) {
        if (opcode == INVOKE_INTERFACE || opcode == INVOKE_DYNAMIC || opcode >= 200) {
            return 5;
        }
        if (opcode == 197) {
            return 4;
        }
        if (opcode == 16 || opcode == 18 || opcode >= 21 && opcode <= 25 || opcode >= 54 && opcode <= 58
                || opcode == 169 || opcode == 188) {
            return 2;
        }
        boolean three = opcode == 17 || opcode == 19 || opcode == 20 || opcode == IINC
            || opcode >= 153 && opcode <= 168 || opcode >= 178 && opcode <= 184
            || opcode == 187 || opcode == 189 || opcode == 192 || opcode == 193 || opcode == 198 || opcode == 199;
        return three ? 3 : 1;
    }

    private static int half(byte[] bytes, int at) {
        return (bytes[at] & 255) << 8 | bytes[at + 1] & 255;
    }

    private static int word(byte[] bytes, int at) {
        return half(bytes, at) << 16 | half(bytes, at + 2);
    }
}
