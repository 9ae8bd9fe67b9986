import java.io.DataInputStream;
import java.io.IOException;
import java.io.InputStream;
import java.util.Set;
import java.util.TreeSet;

/** What a compiled class calls and reads of other classes, as its table of constants tells. */
final class ClassFile {
    private static final int UTF8 = 1, LONG = 5, DOUBLE = 6, CLASS = 7, NAME_AND_TYPE = 12;
    private static final int METHOD_HANDLE = 15;

    private final int[] tags;
    private final int[] firsts;
    private final int[] seconds;
    private final String[] texts;

    private ClassFile(DataInputStream in) throws IOException {
        // the magic number and two version numbers stand ahead
        in.readInt();
        in.readInt();
        int number = in.readUnsignedShort();
        tags = new int[number];
        firsts = new int[number];
        seconds = new int[number];
        texts = new String[number];
        for (int i = 1; i < number; i++) {
            tags[i] = in.readUnsignedByte();
            readConstant(in, i);
            // a long and a double take two numbers
            i += tags[i] == LONG || tags[i] == DOUBLE ? 1 : 0;
        }
    }

    private void readConstant(DataInputStream in, int i) throws IOException {
        switch (tags[i]) {
            case UTF8:
                texts[i] = in.readUTF();
                break;
            case LONG:
            case DOUBLE:
                in.readLong();
                break;
            case CLASS:
            case 8:
            case 16:
            case 19:
            case 20:
                firsts[i] = in.readUnsignedShort();
                break;
            case METHOD_HANDLE:
                in.readUnsignedByte();
                firsts[i] = in.readUnsignedShort();
                break;
            case 3:
            case 4:
                in.readInt();
                break;
            default:
                firsts[i] = in.readUnsignedShort();
                seconds[i] = in.readUnsignedShort();
                break;
        }
    }

    /** As "java/lang/Math.min", for each field and method that is not of the class itself. */
    static Set<String> uses(Class<?> of) throws IOException {
        String name = of.getName().replace('.', '/');
        try (InputStream in = of.getResourceAsStream("/" + name + ".class")) {
            return new ClassFile(new DataInputStream(in)).uses();
        }
    }

    private Set<String> uses() {
        Set<String> all = new TreeSet<>();
        for (int i = 1; i < tags.length; i++) {
            if (tags[i] >= 9 && tags[i] <= 11 && tags[seconds[i]] == NAME_AND_TYPE) {
                all.add(texts[firsts[firsts[i]]] + "." + texts[firsts[seconds[i]]]);
            }
        }
        return all;
    }
}
