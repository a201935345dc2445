import java.lang.annotation.Retention;
import java.lang.annotation.RetentionPolicy;

/** Marks a test of its own for what the document says, a boundary case above all; EdgesTest runs it. */
@Retention(RetentionPolicy.RUNTIME)
@interface Edge {
    int promise();

    /** The document's own words, of Terms or of the promise's section. */
    String[] says();
}
