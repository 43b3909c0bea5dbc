import java.lang.reflect.Constructor;
import java.lang.reflect.Field;
import java.lang.reflect.Method;
import java.lang.reflect.Modifier;
import java.util.Set;
import java.util.TreeSet;

/** The class has the document's face and nothing more that others could see. */
public final class FaceTest {
    private static final String[] FACE = {
        "public final class FileTree",
        "public static final int FileTree.NONE",
        "public FileTree()",
        "public boolean FileTree.write(long)",
        "public int FileTree.find(int)",
        "public int FileTree.create(int,int,int,int)",
        "public int FileTree.link(int)",
        "public int FileTree.unlink(int)",
        "public boolean FileTree.hold(int)",
        "public boolean FileTree.leave(int)",
        "public int FileTree.read(int,int,int)",
        "public int FileTree.save(int,int,int)",
        "public boolean FileTree.clear(int)",
        "public int FileTree.about(int,int)",
        "public int FileTree.free()",
        "public int FileTree.forget()",
        "public boolean FileTree.fill(int,int,int)",
        "public int FileTree.at(int)",
        "public int FileTree.peek(int,int)",
    };

    public static void main(String[] args) {
        Set<String> want = new TreeSet<>(Set.of(FACE));
        Set<String> got = new TreeSet<>();
        got.add(Modifier.toString(FileTree.class.getModifiers()) + " class FileTree");
        for (Field f : FileTree.class.getDeclaredFields()) {
            if (!Modifier.isPrivate(f.getModifiers())) {
                got.add(f.toString());
            }
        }
        for (Constructor<?> c : FileTree.class.getDeclaredConstructors()) {
            if (!Modifier.isPrivate(c.getModifiers())) {
                got.add(c.toString());
            }
        }
        for (Method m : FileTree.class.getDeclaredMethods()) {
            if (!Modifier.isPrivate(m.getModifiers())) {
                got.add(m.toString());
            }
        }
        if (!want.equals(got)) {
            System.out.println("the face is " + got + ", due is " + want);
            System.exit(1);
        }
        System.out.println("the face is as due");
    }
}
