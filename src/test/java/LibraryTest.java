import java.io.DataInputStream;
import java.io.IOException;
import java.lang.reflect.Field;
import java.lang.reflect.Modifier;
import java.util.Set;

/** What the compiled program really uses: of the library nothing but what LANGUAGE.md lists (rules 4 to 6). */
public final class LibraryTest {
    private static final Due due = new Due();
    private static final String OWN = "RubberBandsHoldFamilies";

    private static final Set<String> USED = Set.of(
        "java/lang/Object.<init>()V", "java/lang/Math.min(II)I", "java/lang/Math.max(II)I", "java/lang/Math.abs(I)I",
        "java/lang/Integer.bitCount(I)I", "java/lang/System.arraycopy(Ljava/lang/Object;ILjava/lang/Object;II)V",
        "java/lang/IllegalStateException.<init>(Ljava/lang/String;)V",
        "java/lang/IllegalArgumentException.<init>(Ljava/lang/String;)V",
        "java/lang/UnsupportedOperationException.<init>(Ljava/lang/String;)V");

    /** What stands for a thing in a class file: two of them, told by their numbers. */
    private static final int CLASS = 7;
    private static final int FIELD = 9;
    private static final int METHOD = 10;
    private static final int INTERFACE_METHOD = 11;
    private static final int NAME_AND_TYPE = 12;

    private int[] tag;
    private int[] first;
    private int[] second;
    private String[] text;

    public static void main(String[] args) throws IOException {
        look(RubberBandsHoldFamilies.class);
        for (Class<?> c : RubberBandsHoldFamilies.class.getDeclaredClasses()) {
            look(c);
            due.holds(c + " holds no class itself", c.getDeclaredClasses().length == 0);
        }
        due.end("LibraryTest");
    }

    private static void look(Class<?> c) throws IOException {
        LibraryTest test = new LibraryTest();
        try (DataInputStream in = new DataInputStream(c.getResourceAsStream("/" + c.getName() + ".class"))) {
            test.read(in);
        }
        test.lookAtUses(c);
        for (Field f : c.getDeclaredFields()) {
            boolean isConstant = Modifier.isFinal(f.getModifiers()) && (f.getType() == int.class || f.getType() == long.class);
            due.holds(f + " is a constant if it is static", !Modifier.isStatic(f.getModifiers()) || isConstant);
        }
    }

    private void lookAtUses(Class<?> c) {
        int uses = 0;
        for (int i = 1; i < tag.length; i++) {
            due.holds(c + " has no call that is made up at run time", tag[i] < 15 || tag[i] > 18);
            if (tag[i] != FIELD && tag[i] != METHOD && tag[i] != INTERFACE_METHOD) {
                continue;
            }
            uses++;
            String owner = text[first[first[i]]];
            String used = owner + "." + text[first[second[i]]] + text[second[second[i]]];
            boolean isOwn = owner.equals(OWN) || owner.startsWith(OWN + "$");
            due.holds(c + " uses " + used, isOwn || tag[i] == METHOD && USED.contains(used));
        }
        due.holds(c + " was read", uses > 0);
    }

    private void read(DataInputStream in) throws IOException {
        in.skipBytes(8);
        int length = in.readUnsignedShort();
        tag = new int[length];
        first = new int[length];
        second = new int[length];
        text = new String[length];
        for (int i = 1; i < length; i++) {
            tag[i] = in.readUnsignedByte();
            switch (tag[i]) {
                case 1 -> text[i] = in.readUTF();
                case 3, 4 -> in.readInt();
                case 5, 6 -> {
                    in.readLong();
                    // A long stands for two.
                    i++;
                }
                case FIELD, METHOD, INTERFACE_METHOD, NAME_AND_TYPE, 17, 18 -> {
                    first[i] = in.readUnsignedShort();
                    second[i] = in.readUnsignedShort();
                }
                case CLASS, 8, 16, 19, 20 -> first[i] = in.readUnsignedShort();
                case 15 -> in.skipBytes(3);
                default -> throw new AssertionError("what is " + tag[i]);
            }
        }
    }
}
