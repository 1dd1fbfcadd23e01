import java.io.DataInputStream;
import java.io.IOException;
import java.io.InputStream;
import java.nio.ByteBuffer;
import java.util.ArrayList;
import java.util.List;
import java.util.Set;
import java.util.TreeSet;

/** What a compiled class says of itself: the program as the machine runs it hides nothing. */
final class ClassFile {
    /** A method with its code: what it calls, and which kinds of bytecodes it has. */
    static final class Body {
        final String name;
        final List<String> calls = new ArrayList<>();
        final Set<Integer> opcodes = new TreeSet<>();
        int handlers;
        int firstLine = Integer.MAX_VALUE;
        int lastLine;

        Body(String name) {
            this.name = name;
        }
    }

    static final int ATHROW = 191, MONITOR_ENTER = 194, INVOKE_DYNAMIC = 186;
    static final int NEW = 187, NEW_ARRAY = 188, NEW_ROW_OF_OBJECTS = 189, NEW_TABLE = 197;
    private static final int TABLE_SWITCH = 170, LOOKUP_SWITCH = 171, WIDE = 196, IINC = 132;
    private static final int FIRST_INVOKE = 182, LAST_INVOKE = 185;

    final List<Body> bodies = new ArrayList<>();
    /** Types of all fields, parameters and answers, as descriptors. */
    final Set<String> descriptors = new TreeSet<>();
    private final Object[] pool;
    private final DataInputStream in;

    ClassFile(InputStream stream) throws IOException {
        in = new DataInputStream(stream);
        in.skipNBytes(8);
        pool = new Object[in.readUnsignedShort()];
        for (int k = 1; k < pool.length; k++) {
            k += readConstant(k);
        }
        in.skipNBytes(6);
        in.skipNBytes(2L * in.readUnsignedShort());
        readMembers(false);
        readMembers(true);
        in.close();
    }

    /** Tells how many places more than one it takes. */
    private int readConstant(int k) throws IOException {
        int tag = in.readUnsignedByte();
        switch (tag) {
            case 1:
                pool[k] = in.readUTF();
                return 0;
            case 5:
            case 6:
                in.skipNBytes(8);
                return 1;
            case 7:
            case 8:
            case 16:
                pool[k] = new int[] {in.readUnsignedShort()};
                return 0;
            case 15:
                in.skipNBytes(3);
                return 0;
            case 3:
            case 4:
                in.skipNBytes(4);
                return 0;
            default:
                pool[k] = new int[] {in.readUnsignedShort(), in.readUnsignedShort()};
                return 0;
        }
    }

    private String text(int k) {
        return (String) pool[k];
    }

    private int part(int k, int which) {
        return ((int[]) pool[k])[which];
    }

    /** Owner.name(types)answer, as the constant at k has it. */
    private String called(int k) {
        int nameAndType = part(k, 1);
        String owner = text(part(part(k, 0), 0));
        return owner + "." + text(part(nameAndType, 0)) + text(part(nameAndType, 1));
    }

    private void readMembers(boolean areMethods) throws IOException {
        for (int left = in.readUnsignedShort(); left > 0; left--) {
            in.skipNBytes(2);
            String name = text(in.readUnsignedShort());
            String descriptor = text(in.readUnsignedShort());
            descriptors.add(descriptor);
            Body body = new Body(name + descriptor);
            if (areMethods) {
                bodies.add(body);
            }
            for (int attributes = in.readUnsignedShort(); attributes > 0; attributes--) {
                readAttribute(body);
            }
        }
    }

    private void readAttribute(Body body) throws IOException {
        String name = text(in.readUnsignedShort());
        int length = in.readInt();
        if (name.equals("Code")) {
            readCode(body);
        } else if (name.equals("LineNumberTable")) {
            for (int lines = in.readUnsignedShort(); lines > 0; lines--) {
                in.skipNBytes(2);
                int line = in.readUnsignedShort();
                body.firstLine = Math.min(body.firstLine, line);
                body.lastLine = Math.max(body.lastLine, line);
            }
        } else {
            in.skipNBytes(length);
        }
    }

    private void readCode(Body body) throws IOException {
        in.skipNBytes(4);
        byte[] code = in.readNBytes(in.readInt());
        walk(ByteBuffer.wrap(code), body);
        body.handlers = in.readUnsignedShort();
        in.skipNBytes(8L * body.handlers);
        for (int attributes = in.readUnsignedShort(); attributes > 0; attributes--) {
            readAttribute(body);
        }
    }

    private void walk(ByteBuffer code, Body body) {
        for (int at = 0; at < code.capacity(); at += length(code, at)) {
            int opcode = code.get(at) & 0xFF;
            body.opcodes.add(opcode);
            if (opcode >= FIRST_INVOKE && opcode <= LAST_INVOKE) {
                body.calls.add(called(code.getShort(at + 1) & 0xFFFF));
            }
        }
    }

    private static int length(ByteBuffer code, int at) {
        int opcode = code.get(at) & 0xFF;
        int padded = (at + 4) / 4 * 4;
        switch (opcode) {
            case TABLE_SWITCH:
                return padded + 12 + 4 * (code.getInt(padded + 8) - code.getInt(padded + 4) + 1) - at;
            case LOOKUP_SWITCH:
                return padded + 8 + 8 * code.getInt(padded + 4) - at;
            case WIDE:
                return (code.get(at + 1) & 0xFF) == IINC ? 6 : 4;
            default:
                return plainLength(opcode);
        }
    }

    private static int plainLength(int opcode) {
        if (opcode == 16 || opcode == 18 || opcode == NEW_ARRAY || opcode == 169
                || opcode >= 21 && opcode <= 25 || opcode >= 54 && opcode <= 58) {
            return 2;
        }
        if (opcode == 17 || opcode == 19 || opcode == 20 || opcode == IINC || opcode >= 153 && opcode <= 168
                || opcode >= 178 && opcode <= 184 || opcode == NEW || opcode == NEW_ROW_OF_OBJECTS
                || opcode == 192 || opcode == 193 || opcode == 198 || opcode == 199) {
            return 3;
        }
        if (opcode == NEW_TABLE) {
            return 4;
        }
        return opcode == LAST_INVOKE || opcode == INVOKE_DYNAMIC || opcode >= 200 ? 5 : 1;
    }
}
