import java.io.File;
import java.net.URL;
import java.net.URLClassLoader;
import java.nio.file.Files;
import java.nio.file.Path;
import java.util.ArrayList;
import java.util.List;
import java.util.stream.Stream;
import javax.tools.ToolProvider;

/** A class compiled from a text, in a folder that is taken away after its use. */
final class Compiled {
    interface Use {
        void by(ClassLoader loader) throws Exception;
    }

    private Compiled() {}

    /** The loader has the compiled class before others, and then all that the test itself has. */
    static void use(String name, String source, Use use) throws Exception {
        Path folder = Files.createTempDirectory("compiled");
        try {
            Path file = folder.resolve(name + ".java");
            Files.writeString(file, source);
            Check.same(name + " is compiled", 0, ToolProvider.getSystemJavaCompiler().run(null, null,
                    null, "-d", folder.toString(), "-cp", System.getProperty("java.class.path"),
                    file.toString()));
            try (URLClassLoader loader = loaderOf(folder)) {
                use.by(loader);
            }
        } finally {
            try (Stream<Path> files = Files.list(folder)) {
                files.map(Path::toFile).forEach(File::delete);
            }
            Files.delete(folder);
        }
    }

    private static URLClassLoader loaderOf(Path folder) throws Exception {
        List<URL> urls = new ArrayList<>();
        urls.add(folder.toUri().toURL());
        for (String part : System.getProperty("java.class.path").split(File.pathSeparator)) {
            urls.add(new File(part).toURI().toURL());
        }
        return new URLClassLoader(urls.toArray(new URL[0]), ClassLoader.getPlatformClassLoader());
    }
}
