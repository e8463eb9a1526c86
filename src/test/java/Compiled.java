import java.io.ByteArrayInputStream;
import java.io.DataInputStream;
import java.io.IOException;
import java.io.InputStream;
import java.util.ArrayList;
import java.util.List;

/** What the compiler made of a class: its methods, what they call, and whether they make objects. */
final class Compiled {
    static final int ATHROW = 191, INVOKEDYNAMIC = 186, MONITORENTER = 194;

    /** How many bytes each operation takes; 0: it tells so itself. */
    private static final int[][] SIZES = {
        {0, 15, 1}, {16, 16, 2}, {17, 17, 3}, {18, 18, 2}, {19, 20, 3}, {21, 25, 2}, {26, 53, 1}, {54, 58, 2},
        {59, 131, 1}, {132, 132, 3}, {133, 152, 1}, {153, 168, 3}, {169, 169, 2}, {170, 171, 0}, {172, 177, 1},
        {178, 184, 3}, {185, 186, 5}, {187, 187, 3}, {188, 188, 2}, {189, 189, 3}, {190, 191, 1}, {192, 193, 3},
        {194, 195, 1}, {196, 196, 0}, {197, 197, 4}, {198, 199, 3}, {200, 201, 5}
    };

    /** A method with its class in front, its operations, and the methods and fields that they name. */
    static final class Routine {
        final String name;
        final List<Integer> operations = new ArrayList<>();
        final List<String> uses = new ArrayList<>();

        Routine(String name) {
            this.name = name;
        }

        boolean makesObjects() {
            return operations.stream().anyMatch(o -> o >= 187 && o <= 189 || o == 197);
        }
    }

    final List<Routine> routines = new ArrayList<>();
    private final DataInputStream in;
    private Object[] constants;

    /** All routines of a class and of the classes inside it. */
    static List<Routine> routinesOf(Class<?> outer) throws IOException {
        List<Routine> all = new ArrayList<>(new Compiled(outer).routines);
        for (Class<?> inside : outer.getDeclaredClasses()) all.addAll(routinesOf(inside));
        return all;
    }

    private Compiled(Class<?> of) throws IOException {
        try (InputStream file = of.getResourceAsStream("/" + of.getName() + ".class")) {
            in = new DataInputStream(new ByteArrayInputStream(file.readAllBytes()));
        }
        in.skipBytes(8);
        readConstants();
        in.skipBytes(6);
        in.skipBytes(2 * in.readUnsignedShort());
        readMembers(of.getName(), false);
        readMembers(of.getName(), true);
    }

    private void readConstants() throws IOException {
        constants = new Object[in.readUnsignedShort()];
        for (int k = 1; k < constants.length; k++) {
            int kind = in.readUnsignedByte();
            switch (kind) {
                case 1: constants[k] = in.readUTF(); break;
                case 3: case 4: in.skipBytes(4); break;
                case 5: case 6: in.skipBytes(8); k++; break;
                case 7: case 8: case 16: case 19: case 20: constants[k] = new int[] {in.readUnsignedShort()}; break;
                case 15: in.skipBytes(3); break;
                default: constants[k] = new int[] {in.readUnsignedShort(), in.readUnsignedShort()}; break;
            }
        }
    }

    private void readMembers(String of, boolean methods) throws IOException {
        int count = in.readUnsignedShort();
        for (int k = 0; k < count; k++) {
            in.skipBytes(2);
            Routine routine = new Routine(of + "." + constants[in.readUnsignedShort()]);
            in.skipBytes(2);
            int attributes = in.readUnsignedShort();
            for (int a = 0; a < attributes; a++) {
                boolean isCode = "Code".equals(constants[in.readUnsignedShort()]);
                byte[] bytes = in.readNBytes(in.readInt());
                if (isCode) readCode(routine, bytes);
            }
            if (methods) routines.add(routine);
        }
    }

    private static int twoBytes(byte[] b, int at) {
        return (b[at] & 255) << 8 | b[at + 1] & 255;
    }

    private static int fourBytes(byte[] b, int at) {
        return twoBytes(b, at) << 16 | twoBytes(b, at + 2);
    }

    private void readCode(Routine routine, byte[] attribute) {
        int length = fourBytes(attribute, 4);
        int begin = 8;
        int at = begin;
        while (at < begin + length) {
            int operation = attribute[at] & 255;
            routine.operations.add(operation);
            if (operation >= 178 && operation <= 185) routine.uses.add(member(twoBytes(attribute, at + 1)));
            at += size(attribute, begin, at);
        }
    }

    private static int size(byte[] code, int begin, int at) {
        int operation = code[at] & 255;
        int padded = (at - begin + 4) / 4 * 4 - (at - begin);
        if (operation == 170) {
            return padded + 12 + 4 * (fourBytes(code, at + padded + 8) - fourBytes(code, at + padded + 4) + 1);
        }
        if (operation == 171) return padded + 8 + 8 * fourBytes(code, at + padded + 4);
        if (operation == 196) return (code[at + 1] & 255) == 132 ? 6 : 4;
        for (int[] s : SIZES) {
            if (operation >= s[0] && operation <= s[1]) return s[2];
        }
        throw new IllegalStateException("no such operation: " + operation);
    }

    private String member(int k) {
        int[] classAndName = (int[]) constants[k];
        String owner = (String) constants[((int[]) constants[classAndName[0]])[0]];
        String name = (String) constants[((int[]) constants[classAndName[1]])[0]];
        return owner + "." + name;
    }
}
