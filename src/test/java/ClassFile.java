import java.io.ByteArrayInputStream;
import java.io.DataInputStream;
import java.io.IOException;
import java.io.InputStream;
import java.util.ArrayList;
import java.util.LinkedHashMap;
import java.util.List;
import java.util.Map;
import java.util.Set;
import java.util.TreeSet;

/** What the compiler made of a class: what its methods call, and which steps of the machine they use. */
final class ClassFile {
    /** How many bytes each step of the machine has; 0 for those that tell it themselves. */
    private static final String WIDE = "1111111111111111" + "2323322222111111" + "1111111111111111" + "1111112222211111"
        + "1111111111111111" + "1111111111111111" + "1111111111111111" + "1111111111111111" + "1111311111111111" + "1111111113333333"
        + "3333333332001111" + "1133333335532311" + "331104" + "3355";

    final String name;
    /** Of each method, as Class.name(types)type, what it calls, in the same form. */
    final Map<String, Set<String>> calls = new LinkedHashMap<>();
    /** Of each method the steps that it uses, by their numbers. */
    final Map<String, Set<Integer>> steps = new LinkedHashMap<>();
    /** The types of all fields. */
    final Set<String> types = new TreeSet<>();
    /** Methods that catch something. */
    final Set<String> catching = new TreeSet<>();
    /** Methods that write a static field. */
    final Set<String> writing = new TreeSet<>();
    private Object[] pool = new Object[0];

    ClassFile(Class<?> c) throws IOException {
        name = c.getName();
        String file = c.getName().substring(c.getPackageName().length()) + ".class";
        try (InputStream raw = c.getResourceAsStream(file)) {
            read(new DataInputStream(new ByteArrayInputStream(raw.readAllBytes())));
        }
    }

    private void read(DataInputStream in) throws IOException {
        in.readInt();
        in.readInt();
        pool(in);
        in.readUnsignedShort();
        in.readInt();
        for (int n = in.readUnsignedShort(); n > 0; n--) in.readUnsignedShort();
        for (int n = in.readUnsignedShort(); n > 0; n--) {
            in.readInt();
            types.add((String) pool[in.readUnsignedShort()]);
            skipAttributes(in);
        }
        for (int n = in.readUnsignedShort(); n > 0; n--) method(in);
    }

    /** Texts stand as such, all others as the numbers that they are made of. */
    private void pool(DataInputStream in) throws IOException {
        pool = new Object[in.readUnsignedShort()];
        for (int i = 1; i < pool.length; i++) {
            int tag = in.readUnsignedByte();
            switch (tag) {
                case 1: pool[i] = in.readUTF(); break;
                case 5: case 6:
                    in.readLong();
                    i++;
                    break;
                case 7: case 8: case 16: case 19: case 20: pool[i] = new int[] {in.readUnsignedShort()}; break;
                case 15: in.readUnsignedByte(); in.readUnsignedShort(); break;
                case 3: case 4: in.readInt(); break;
                default: pool[i] = new int[] {in.readUnsignedShort(), in.readUnsignedShort()};
            }
        }
    }

    private String text(int i) {
        return pool[i] instanceof String ? (String) pool[i] : text(((int[]) pool[i])[0]);
    }

    /** Class.name(types)type of what a reference names. */
    private String named(int i) {
        int[] reference = (int[]) pool[i];
        int[] what = (int[]) pool[reference[1]];
        return text(reference[0]).replace('/', '.') + "." + text(what[0]) + text(what[1]);
    }

    private void skipAttributes(DataInputStream in) throws IOException {
        for (int n = in.readUnsignedShort(); n > 0; n--) {
            in.readUnsignedShort();
            in.skipBytes(in.readInt());
        }
    }

    private void method(DataInputStream in) throws IOException {
        in.readUnsignedShort();
        String told = name + "." + text(in.readUnsignedShort()) + text(in.readUnsignedShort());
        calls.put(told, new TreeSet<>());
        steps.put(told, new TreeSet<>());
        for (int n = in.readUnsignedShort(); n > 0; n--) {
            boolean code = text(in.readUnsignedShort()).equals("Code");
            byte[] bytes = new byte[in.readInt()];
            in.readFully(bytes);
            if (code) code(told, new DataInputStream(new ByteArrayInputStream(bytes)));
        }
    }

    private void code(String method, DataInputStream in) throws IOException {
        in.readInt();
        byte[] code = new byte[in.readInt()];
        in.readFully(code);
        if (in.readUnsignedShort() > 0) catching.add(method);
        for (int at = 0; at < code.length; at += wide(code, at)) {
            int step = code[at] & 255;
            steps.get(method).add(step);
            int with = at + 2 < code.length ? (code[at + 1] & 255) << 8 | code[at + 2] & 255 : 0;
            if (step >= 182 && step <= 185) calls.get(method).add(named(with));
            if (step == 179) writing.add(method);
        }
    }

    private static int number(byte[] code, int at) {
        return (code[at] & 255) << 24 | (code[at + 1] & 255) << 16 | (code[at + 2] & 255) << 8 | code[at + 3] & 255;
    }

    private static int wide(byte[] code, int at) {
        int step = code[at] & 255;
        int padded = (at / 4 + 1) * 4;
        if (step == 170) return padded + 12 + 4 * (number(code, padded + 8) - number(code, padded + 4) + 1) - at;
        if (step == 171) return padded + 8 + 8 * number(code, padded + 4) - at;
        if (step == 196) return (code[at + 1] & 255) == 132 ? 6 : 4;
        return Math.max(1, WIDE.charAt(step) - '0');
    }

    /** Of all methods of some classes, the longest chain of calls from each; those that call one another count once. */
    static Map<String, List<String>> chains(List<ClassFile> files) {
        Map<String, Set<String>> all = new LinkedHashMap<>();
        for (ClassFile file : files) all.putAll(file.calls);
        Map<String, List<String>> told = new LinkedHashMap<>();
        for (String method : all.keySet()) chain(method, all, told);
        return told;
    }

    private static List<String> chain(String method, Map<String, Set<String>> all, Map<String, List<String>> told) {
        if (told.containsKey(method)) return told.get(method);
        Set<String> here = together(method, all);
        List<String> longest = new ArrayList<>();
        for (String one : here) {
            for (String next : all.get(one)) {
                if (here.contains(next) || !all.containsKey(next)) continue;
                List<String> behind = chain(next, all, told);
                if (behind.size() > longest.size()) longest = behind;
            }
        }
        List<String> whole = new ArrayList<>(longest);
        whole.add(0, method);
        told.put(method, whole);
        return whole;
    }

    /** The methods that a method calls, over others too, and that call it so. */
    static Set<String> together(String method, Map<String, Set<String>> all) {
        Set<String> some = new TreeSet<>();
        some.add(method);
        for (String other : reached(method, all)) if (reached(other, all).contains(method)) some.add(other);
        return some;
    }

    static Set<String> reached(String from, Map<String, Set<String>> all) {
        Set<String> met = new TreeSet<>();
        List<String> still = new ArrayList<>(List.of(from));
        while (!still.isEmpty()) {
            for (String next : all.getOrDefault(still.remove(still.size() - 1), Set.of())) {
                if (all.containsKey(next) && met.add(next)) still.add(next);
            }
        }
        return met;
    }
}
