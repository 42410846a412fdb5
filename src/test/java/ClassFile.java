import java.io.ByteArrayInputStream;
import java.io.DataInputStream;
import java.io.IOException;
import java.io.InputStream;
import java.util.ArrayList;
import java.util.List;

/** As much of a class file as tells what its methods do: whom they call, what they make, throw and catch. */
final class ClassFile {
    /** An instruction, and whom or what it names: a method as Class.name(types), a class, or nothing. */
    record Step(int code, String names) {
    }

    record Method(String name, boolean isConstructor, List<Step> steps, int catches) {
    }

    static final int NEW = 187;
    static final int NEW_ARRAY = 188;
    static final int NEW_OBJECT_ARRAY = 189;
    static final int THROW = 191;
    static final int CAST = 192;
    static final int INSTANCE_OF = 193;
    static final int ENTER = 194;
    static final int EXIT = 195;
    static final int WIDE = 196;
    static final int NEW_ARRAYS = 197;
    static final int FIRST_CALL = 182;
    static final int DYNAMIC_CALL = 186;
    private static final int TABLE_SWITCH = 170;
    private static final int LOOKUP_SWITCH = 171;
    private static final int INCREASE = 132;
    private static final int FIRST_FIELD = 178;

    /** How many bytes stand behind each instruction, by its number; those of 170, 171 and 196 differ. */
    private static final String OPERANDS = "0000000000000000" + "1212211111000000" + "0000000000000000" + "0000001111100000"
            + "0000000000000000" + "0000000000000000" + "0000000000000000" + "0000000000000000" + "0000200000000000"
            + "0000000002222222" + "2222222221000000" + "0022222224421200" + "2200032244";

    final String name;
    final List<Method> methods = new ArrayList<>();
    private final int[] tags;
    private final int[] firsts;
    private final int[] seconds;
    private final String[] words;

    static ClassFile of(String className) throws IOException {
        try (InputStream in = ClassFile.class.getResourceAsStream("/" + className + ".class")) {
            return new ClassFile(className, new DataInputStream(new ByteArrayInputStream(in.readAllBytes())));
        }
    }

    private ClassFile(String className, DataInputStream in) throws IOException {
        name = className;
        in.skipBytes(8);
        int many = in.readUnsignedShort();
        tags = new int[many];
        firsts = new int[many];
        seconds = new int[many];
        words = new String[many];
        readConstants(in);
        in.skipBytes(6);
        in.skipBytes(2 * in.readUnsignedShort());
        int fields = in.readUnsignedShort();
        for (int k = 0; k < fields; k++) {
            in.skipBytes(6);
            skipAttributes(in);
        }
        int found = in.readUnsignedShort();
        for (int k = 0; k < found; k++) {
            readMethod(in);
        }
    }

    private void readConstants(DataInputStream in) throws IOException {
        for (int k = 1; k < tags.length; k++) {
            tags[k] = in.readUnsignedByte();
            switch (tags[k]) {
                case 1:
                    words[k] = in.readUTF();
                    break;
                case 7: case 8: case 16: case 19: case 20:
                    firsts[k] = in.readUnsignedShort();
                    break;
                case 15:
                    in.skipBytes(3);
                    break;
                case 5: case 6:
                    in.skipBytes(8);
                    // Numbers of eight bytes take two places.
                    k++;
                    break;
                case 3: case 4:
                    in.skipBytes(4);
                    break;
                default:
                    firsts[k] = in.readUnsignedShort();
                    seconds[k] = in.readUnsignedShort();
            }
        }
    }

    private static void skipAttributes(DataInputStream in) throws IOException {
        int many = in.readUnsignedShort();
        for (int k = 0; k < many; k++) {
            in.skipBytes(2);
            in.skipBytes(in.readInt());
        }
    }

    private void readMethod(DataInputStream in) throws IOException {
        in.skipBytes(2);
        String plainName = words[in.readUnsignedShort()];
        String types = words[in.readUnsignedShort()];
        List<Step> steps = new ArrayList<>();
        int catches = 0;
        int attributes = in.readUnsignedShort();
        for (int k = 0; k < attributes; k++) {
            String kind = words[in.readUnsignedShort()];
            int length = in.readInt();
            if (!kind.equals("Code")) {
                in.skipBytes(length);
                continue;
            }
            in.skipBytes(4);
            byte[] code = new byte[in.readInt()];
            in.readFully(code);
            readSteps(code, steps);
            catches = in.readUnsignedShort();
            in.skipBytes(8 * catches);
            skipAttributes(in);
        }
        methods.add(new Method(name + "." + plainName + types, plainName.startsWith("<"), steps, catches));
    }

    private void readSteps(byte[] code, List<Step> steps) {
        int at = 0;
        while (at < code.length) {
            int step = code[at] & 255;
            boolean names = step >= FIRST_FIELD && step <= NEW || step == NEW_OBJECT_ARRAY || step == CAST || step == INSTANCE_OF;
            steps.add(new Step(step, names ? nameOf(two(code, at + 1)) : ""));
            at += lengthOf(code, at, step);
        }
    }

    private static int lengthOf(byte[] code, int at, int step) {
        int aligned = at + 4 - at % 4;
        switch (step) {
            case TABLE_SWITCH:
                return aligned + 12 + 4 * (four(code, aligned + 8) - four(code, aligned + 4) + 1) - at;
            case LOOKUP_SWITCH:
                return aligned + 8 + 8 * four(code, aligned + 4) - at;
            case WIDE:
                return (code[at + 1] & 255) == INCREASE ? 6 : 4;
            default:
                return 1 + OPERANDS.charAt(step) - '0';
        }
    }

    private static int two(byte[] code, int at) {
        return (code[at] & 255) << 8 | code[at + 1] & 255;
    }

    private static int four(byte[] code, int at) {
        return two(code, at) << 16 | two(code, at + 2);
    }

    private String nameOf(int constant) {
        if (tags[constant] == 7) {
            return words[firsts[constant]];
        }
        int owner = firsts[constant];
        int what = seconds[constant];
        boolean isMember = tags[constant] == 9 || tags[constant] == 10 || tags[constant] == 11;
        return isMember ? words[firsts[owner]] + "." + words[firsts[what]] + words[seconds[what]] : "dynamic";
    }
}
