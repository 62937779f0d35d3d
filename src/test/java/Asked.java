/** Who answers the document's calls by their names: the class itself, or the model. A boolean counts 1 or 0. */
interface Asked {
    long ask(String name, long... a);
}
